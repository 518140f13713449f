/-! TYPES: a word, on both sides -/
def BaseR (F : MF) (X : Nat → List Int) : Prop := (∀ r, r < 24 → Rok (X r)) ∧ (∀ id, id < 600 → F 253 id = bnd X id) ∧ FnI F X ∧ ∀ g t, g < 3 → t < (toks X g).length → F 213 (200 * g + t) = kn (ks X g) t
def WRes (F : MF) (X : Nat → List Int) (f fn vf : Nat) (A' N' : Nat → Prop) (w : Int) (L1 : List Nat) (ns1 : List (Nat × Int)) (h : Nat → Nat) (st : List (Nat × Int)) (E : List Int) (r : TR) : Prop :=
  ∃ (Z' : List Z3) (r' : TR), ns1 = NZ Z' ∧ (∀ z ∈ Z', z.2.1 < 1600) ∧ (tstep X f fn w (h, st, E)).2.1 = TZ f Z' ∧ TJ X A' N' Z' ((tstep X f fn w (h, st, E)).1, (tstep X f fn w (h, st, E)).2.2) r' ∧
    (∀ n, L1 = [n] → ∀ G, St G → frT F G → TyR G r → C_272 (f : Int) (n : Int) (vf : Int) G (fun G' => TyR G' r' ∧ frT F G') m_no) ∧ (L1 = [] → r' = r)
section Mb8
variable {F G : MF} {X : Nat → List Int} {A N A' N' : Nat → Prop} {Z Z' : List Z3} {h H : Nat → Nat} {T : Nat → Int} {E E' : List Int} {n f i fn vf p tf : Nat} {w : Int} {q : TQ} {r : TR} {a b : Nat × Int} {st : List (Nat × Int)}
theorem ts_18 (h1 : wo w = 18) : tstep X f fn w (h, a :: st, E) = (h, (a.1, ((200 * f + (wt w).toNat : Nat) : Int)) :: st, E) := by
  unfold tstep
  rw [if_neg (by omega), if_neg (by omega)]
  show (if _ then _ else _) = _
  rw [if_pos h1]
theorem ts_16 (h1 : wo w = 16) : tstep X f fn w (h, a :: st, E) = ((alT (h, E) a.1 601 a.2).1, (601, ((200 * f + (wt w).toNat : Nat) : Int)) :: st, (alT (h, E) a.1 601 a.2).2) := by
  unfold tstep
  rw [if_neg (by omega), if_neg (by omega)]
  show (if _ then _ else _) = _
  rw [if_neg (by omega), if_pos h1]
theorem ts_17 (h1 : wo w = 17) : tstep X f fn w (h, a :: b :: st, E) = if kn (ks X f) (wt w).toNat = 17 then ((alT (h, E) a.1 b.1 a.2).1, (601, b.2) :: st, (alT (h, E) a.1 b.1 a.2).2)
        else ((alT (alT (h, E) b.1 600 b.2) a.1 600 a.2).1, ((if kn (ks X f) (wt w).toNat = 18 then 601 else 600), b.2) :: st, (alT (alT (h, E) b.1 600 b.2) a.1 600 a.2).2) := by
  unfold tstep
  rw [if_neg (by omega), if_neg (by omega)]
  show (if _ then _ else _) = _
  rw [if_neg (by omega), if_neg (by omega), if_pos h1]
theorem ts_78 (h1 : wo w = 7 ∨ wo w = 8) : tstep X f fn w (h, a :: st, E) = ((alT (h, E) a.1 (slo X f (wt w).toNat) a.2).1, st, (alT (h, E) a.1 (slo X f (wt w).toNat) a.2).2) := by
  unfold tstep
  rw [if_neg (by omega), if_neg (by omega)]
  show (if _ then _ else _) = _
  rw [if_neg (by omega), if_neg (by omega), if_neg (by omega), if_pos h1]
theorem ts_10 (h1 : wo w = 10) : tstep X f fn w (h, a :: st, E) = ((alT (h, E) a.1 fn a.2).1, st, (alT (h, E) a.1 fn a.2).2) := by
  unfold tstep
  rw [if_neg (by omega), if_neg (by omega)]
  show (if _ then _ else _) = _
  rw [if_neg (by omega), if_neg (by omega), if_neg (by omega), if_neg (by omega), if_pos h1]
theorem ts_11 (h1 : wo w = 11) : tstep X f fn w (h, a :: st, E) = ((alT (h, E) a.1 601 a.2).1, st, (alT (h, E) a.1 601 a.2).2) := by
  unfold tstep
  rw [if_neg (by omega), if_neg (by omega)]
  show (if _ then _ else _) = _
  rw [if_neg (by omega), if_neg (by omega), if_neg (by omega), if_neg (by omega), if_neg (by omega), if_pos h1]
theorem ts_9 (h1 : wo w = 9) : tstep X f fn w (h, a :: st, E) = (h, st, E) := by
  unfold tstep
  rw [if_neg (by omega), if_neg (by omega)]
  show (if _ then _ else _) = _
  rw [if_neg (by omega), if_neg (by omega), if_neg (by omega), if_neg (by omega), if_neg (by omega), if_neg (by omega), if_pos h1]
theorem mk18 {K : List Int} {a e : Nat} (h : WC K (mk 18 a e)) : a < 200 ∧ e = 0 := by
  obtain ⟨o, t, e', e1, e2, e3⟩ := h
  have ho : o < 256 := by unfold oX at e3; omega
  have h1 : o = 18 := by have := congrArg wo e1; rw [wo_mk (by decide), wo_mk ho] at this; omega
  subst h1
  unfold oX at e3
  unfold mk at e1
  omega
theorem mk16b {K : List Int} {a o : Nat} (ho : o = 16 ∨ o = 17) (h : WC K (mk o a 0)) : a < 200 := by
  obtain ⟨o', t, e, e1, e2, e3⟩ := h
  have ho' : o' < 256 := by unfold oX at e3; omega
  have h1 : o' = o := by have := congrArg wo e1; rw [wo_mk (by omega), wo_mk ho'] at this; omega
  subst h1
  unfold oX at e3
  unfold mk at e1
  omega
theorem fr27 (hf : frT F G) : ∀ c, c < 255 → c ≠ 201 → G c = F c := fun c h1 h2 => hf.1 c (by unfold TyRP; omega)
theorem BaseR.cong (hB : BaseR F X) (hf : frT F G) : BaseR G X := by
  obtain ⟨b1, b2, b3, b4⟩ := hB
  have e := fr27 hf
  refine ⟨b1, fun id hid => by rw [e 253 (by decide) (by decide)]; exact b2 id hid, fun g hg => ?_, fun g t hg ht => by rw [e 213 (by decide) (by decide)]; exact b4 g t hg ht⟩
  obtain ⟨x, y, I, i1, i2⟩ := b3 g hg
  refine ⟨x, y, I, i1.cong (fun c h1 h2 => e c (by omega) (by omega)) (by rw [e 245 (by decide) (by decide)]), fun it hi h2 => ?_⟩
  obtain ⟨p1, p2⟩ := i2 it hi h2
  refine ⟨?_, p2⟩
  unfold PM at p1 ⊢
  rw [e 224 (by decide) (by decide), e 221 (by decide) (by decide), e 222 (by decide) (by decide), e 227 (by decide) (by decide)]
  exact p1
theorem TJ.el (hJ : TJ X A N Z (h, E) (H, T, E')) : E'.length = E.length := by
  have j : E' = E.map trI := hJ.2.1
  rw [j, List.length_map]
theorem kp_len {f p : Nat} (h : kp (ks X f) p) : p < (toks X f).length := kn_tok (fun e => by unfold kp at h; rw [e] at h; revert h; decide)
theorem tw_leaf (hB : BaseR F X) (hf : f < 3) (hi : i < (Cw X f).length) (hw : gx (Cw X f) i = w) (hJ : TJ X A N Z (h, E) (H, T, E')) (hA : ∀ s, A' s → A s) (hA2 : ∀ t : Nat, bset X f w (t : Int) → ¬ A' (200 * f + t)) (hA3 : ∀ t : Nat, bset X f w (t : Int) → bnd X (200 * f + t) = -1 → A (200 * f + t)) (hN : ∀ m, N' m → N m) (hZn : ∀ z ∈ Z, z.2.1 < 1600) (hE : E.length + Z.length + 3 < 2000) (hN2 : N n ∧ ¬ N' n ∧ n < 1600) (e1 : w = mk 14 p 0) (h21 : F 221 n = 13) (h22 : F 222 n = (p : Int)) :
    WRes F X f fn vf A' N' w [n] ((n, (p : Int)) :: NZ Z) h (TZ f Z) E (H, T, E') := by
  have hX := hB.1
  have lk := toks_len hX hf
  have hwc := Cw_wc hX hf hi
  rw [hw] at hwc
  have hn' : ∀ m, N' m → N m ∧ m ≠ n := fun m hm => ⟨hN m hm, fun e => hN2.2.1 (by rw [← e]; exact hm)⟩
  rw [e1] at hwc
  obtain ⟨hp, hk⟩ := mk14 hwc
  have hp2 := kp_len hk
  have w1 := wo_mk (o := 14) (t := p) (e := 0) (by decide)
  have w2 := wt_mk (o := 14) (t := p) (e := 0) (by decide) hp
  have bs : kn (ks X f) p = 0 → bset X f w (p : Int) := fun h0 => by rw [e1]; exact (bset_1 (Or.inr (Or.inr (Or.inr ⟨rfl, h0⟩))) hp).mpr rfl
  have fs := hJ.fresh hN2.1
  have hid : 200 * f + p < 600 := by omega
  have ts := ts_14 (X := X) (f := f) (fn := fn) (h := h) (E := E) (st := TZ f Z) (w := w) (by rw [e1]; exact w1)
  rw [e1, w2, Int.toNat_natCast, ← e1] at ts
  refine ⟨((if kn (ks X f) p = 1 then 600 else if kn (ks X f) p = 0 then slo X f p else 601), n, (p : Int)) :: Z, plR X f n p (kn (ks X f) p) (H, T, E'), rfl, fun z hz => ?_, ?_, ?_, fun m hm G hS hfr hT => ?_, fun hh => absurd hh (by simp)⟩
  · rcases List.mem_cons.mp hz with e | e
    · rw [e]; exact hN2.2.2
    · exact hZn z e
  · rw [ts]
    show _ :: TZ f Z = _ :: TZ f Z
    congr 2
  · rw [ts]
    show TJ X A' N' _ (h, E) _
    have hpp : (0 : Int) ≤ (p : Int) ∧ (p : Int) < 200 := by omega
    unfold plR
    by_cases k1 : kn (ks X f) p = 1
    · rw [if_pos k1, if_neg (by omega), if_pos k1]
      exact hJ.push_st (Or.inl ⟨rfl, rfl⟩) hN2.1 hn' hA hpp
    · rw [if_neg k1]
      by_cases k0 : kn (ks X f) p = 0
      · rw [if_pos k0, if_pos k0]
        unfold slo
        by_cases b1 : bnd X (200 * f + p) = -1
        · rw [if_pos b1, if_pos b1]
          exact hJ.push_own (hA3 p (bs k0) b1) (hA2 p (bs k0)) hN2.1 hn' hA hpp
        · rw [if_neg b1, if_neg b1]
          exact hJ.push_lk (Or.inl ⟨(bnd_D hX hid b1).1, rfl⟩) hN2.1 hn' hA hpp
      · rw [if_neg k0, if_neg k0, if_neg k1]
        exact hJ.push_st (Or.inr ⟨rfl, rfl⟩) hN2.1 hn' hA hpp
  · obtain rfl : n = m := by injection hm
    have e := fr27 hfr
    obtain ⟨-, b2, b3, b4⟩ := hB.cong hfr
    refine CaV.on (s_272p (vf := (vf : Int)) (kd := kn (ks X f) p) hS hX hT hN2.2.2 hf (by rw [e 221 (by decide) (by decide)]; exact h21) (by rw [e 222 (by decide) (by decide)]; exact h22) hid (b4 f p hf hp2) b2 fs.1 (fun v hv e0 => ?_)) (fun F' _ k => ⟨k.1, hfr.tr k.2⟩)
    have := bnd_rng hX (200 * f + p) hid
    have j5 := hJ.2.2.2.2.1 n hN2.1
    have := j5.2.2 v e0
    omega
theorem tw_not (hB : BaseR F X) (hf : f < 3) (hi : i < (Cw X f).length) (hw : gx (Cw X f) i = w) (hJ : TJ X A N Z (h, E) (H, T, E')) (hA : ∀ s, A' s → A s) (hA2 : ∀ t : Nat, bset X f w (t : Int) → ¬ A' (200 * f + t)) (hA3 : ∀ t : Nat, bset X f w (t : Int) → bnd X (200 * f + t) = -1 → A (200 * f + t)) (hN : ∀ m, N' m → N m) (hZn : ∀ z ∈ Z, z.2.1 < 1600) (hE : E.length + Z.length + 3 < 2000) (hN2 : N n ∧ ¬ N' n ∧ n < 1600) {z : Z3} (hZ : Z = z :: Z') (e1 : w = mk 16 p 0) (h21 : F 221 n = 16) (h22 : F 222 n = (p : Int)) (h24 : F 224 n = (z.2.1 : Int)) (h23 : F 223 z.2.1 = z.2.2) :
    WRes F X f fn vf A' N' w [n] ((n, (p : Int)) :: NZ Z') h (TZ f Z) E (H, T, E') := by
  have hX := hB.1
  have lk := toks_len hX hf
  have hwc := Cw_wc hX hf hi
  rw [hw] at hwc
  have hn' : ∀ m, N' m → N m ∧ m ≠ n := fun m hm => ⟨hN m hm, fun e => hN2.2.1 (by rw [← e]; exact hm)⟩
  rw [e1] at hwc
  have hp := mk16b (Or.inl rfl) hwc
  have w1 := wo_mk (o := 16) (t := p) (e := 0) (by decide)
  have w2 := wt_mk (o := 16) (t := p) (e := 0) (by decide) (by omega)
  have hz : z ∈ Z := by rw [hZ]; exact List.mem_cons_self
  have zb := hJ.2.2.1 z hz
  have zn := hZn z hz
  have el := hJ.el
  have tZ : TZ f Z = (z.1, 200 * (f : Int) + z.2.2) :: TZ f Z' := by rw [hZ]; rfl
  have ts := ts_16 (X := X) (f := f) (fn := fn) (h := h) (E := E) (a := (z.1, 200 * (f : Int) + z.2.2)) (st := TZ f Z') (w := w) (by rw [e1]; exact w1)
  rw [e1, w2, Int.toNat_natCast, ← e1, ← tZ] at ts
  have hM := (hJ.mu (k := 2) (c := 601) (Or.inr ⟨z, hz, rfl, rfl⟩) (Or.inr ⟨rfl, rfl⟩) (tri_at (f := f) zb.2.2.2)).mo (Z' := Z') (fun y hy => by rw [hZ]; exact List.mem_cons_of_mem _ hy) (fun s hs => hs) (fun m hm => hm)
  refine ⟨(601, n, (p : Int)) :: Z', stR (muR (H, T, E') (600 + z.2.1) 2 (1000 * (f : Int) + z.2.2)) (600 + n) 2, rfl, fun y hy => ?_, ?_, ?_, fun m hm G hS hfr hT => ?_, fun hh => absurd hh (by simp)⟩
  · rcases List.mem_cons.mp hy with e | e
    · rw [e]; exact hN2.2.2
    · exact hZn y (by rw [hZ]; exact List.mem_cons_of_mem _ e)
  · rw [ts]
    show _ :: TZ f Z' = _ :: TZ f Z'
    congr 2
  · rw [ts]
    have hpp : (0 : Int) ≤ (p : Int) ∧ (p : Int) < 200 := by omega
    exact hM.push_st (Or.inr ⟨rfl, rfl⟩) hN2.1 hn' hA hpp
  · obtain rfl : n = m := by injection hm
    have e := fr27 hfr
    have := s_272n (vf := (vf : Int)) (u := z.2.1) hS hT hN2.2.2 zn hf (by rw [e 221 (by decide) (by decide)]; exact h21) (by rw [e 224 (by decide) (by decide)]; exact h24) (by rw [e 222 (by decide) (by decide), h22]; omega) (by rw [e 223 (by decide) (by decide), h23]; omega) (by show E'.length < 2000; omega)
    rw [e 223 (by decide) (by decide), h23] at this
    exact CaV.on this (fun F' _ k => ⟨k.1, hfr.tr k.2⟩)
theorem tw_pair (hB : BaseR F X) (hf : f < 3) (hi : i < (Cw X f).length) (hw : gx (Cw X f) i = w) (hJ : TJ X A N Z (h, E) (H, T, E')) (hA : ∀ s, A' s → A s) (hA2 : ∀ t : Nat, bset X f w (t : Int) → ¬ A' (200 * f + t)) (hA3 : ∀ t : Nat, bset X f w (t : Int) → bnd X (200 * f + t) = -1 → A (200 * f + t)) (hN : ∀ m, N' m → N m) (hZn : ∀ z ∈ Z, z.2.1 < 1600) (hE : E.length + Z.length + 3 < 2000) (hN2 : N n ∧ ¬ N' n ∧ n < 1600) {zu zv : Z3} (hZ : Z = zv :: zu :: Z') (e1 : w = mk 17 p 0) (h21 : F 221 n = 30) (h22 : F 222 n = kn (ks X f) p) (h24 : F 224 n = (zu.2.1 : Int)) (h25 : F 225 n = (zv.2.1 : Int)) (h23 : F 223 zu.2.1 = zu.2.2) (h23v : F 223 zv.2.1 = zv.2.2) :
    WRes F X f fn vf A' N' w [n] ((n, zu.2.2) :: NZ Z') h (TZ f Z) E (H, T, E') := by
  have hX := hB.1
  have lk := toks_len hX hf
  have hwc := Cw_wc hX hf hi
  rw [hw] at hwc
  have hn' : ∀ m, N' m → N m ∧ m ≠ n := fun m hm => ⟨hN m hm, fun e => hN2.2.1 (by rw [← e]; exact hm)⟩
  rw [e1] at hwc
  have hp := mk16b (Or.inr rfl) hwc
  have w1 := wo_mk (o := 17) (t := p) (e := 0) (by decide)
  have w2 := wt_mk (o := 17) (t := p) (e := 0) (by decide) (by omega)
  have hzv : zv ∈ Z := by rw [hZ]; exact List.mem_cons_self
  have hzu : zu ∈ Z := by rw [hZ]; exact List.mem_cons_of_mem _ List.mem_cons_self
  have zbu := hJ.2.2.1 zu hzu
  have zbv := hJ.2.2.1 zv hzv
  have znu := hZn zu hzu
  have znv := hZn zv hzv
  have el := hJ.el
  have kr := kn_rng hX hf p
  have tZ : TZ f Z = (zv.1, 200 * (f : Int) + zv.2.2) :: (zu.1, 200 * (f : Int) + zu.2.2) :: TZ f Z' := by rw [hZ]; rfl
  have ts := ts_17 (X := X) (f := f) (fn := fn) (h := h) (E := E) (a := (zv.1, 200 * (f : Int) + zv.2.2)) (b := (zu.1, 200 * (f : Int) + zu.2.2)) (st := TZ f Z') (w := w) (by rw [e1]; exact w1)
  rw [e1, w2, Int.toNat_natCast, ← e1, ← tZ] at ts
  have sub : ∀ y ∈ Z', y ∈ Z := fun y hy => by rw [hZ]; exact List.mem_cons_of_mem _ (List.mem_cons_of_mem _ hy)
  have Pu : PZ X Z zu.1 (600 + zu.2.1) := Or.inr ⟨zu, hzu, rfl, rfl⟩
  have Pv : PZ X Z zv.1 (600 + zv.2.1) := Or.inr ⟨zv, hzv, rfl, rfl⟩
  have hM1 := (hJ.jn Pv Pu (tri_at (f := f) zbv.2.2.2)).mo (Z' := Z') sub (fun s hs => hs) (fun m hm => hm)
  have hM2 := ((hJ.mu (k := 1) (c := 600) Pu (Or.inl ⟨rfl, rfl⟩) (tri_at (f := f) zbu.2.2.2)).mu (k := 1) (c := 600) Pv (Or.inl ⟨rfl, rfl⟩) (tri_at (f := f) zbv.2.2.2)).mo (Z' := Z') sub (fun s hs => hs) (fun m hm => hm)
  refine ⟨((if kn (ks X f) p = 17 then 601 else if kn (ks X f) p = 18 then 601 else 600), n, zu.2.2) :: Z', prR (H, T, E') n zu.2.1 zv.2.1 (kn (ks X f) p) (1000 * (f : Int) + zu.2.2) (1000 * (f : Int) + zv.2.2), rfl, fun y hy => ?_, ?_, ?_, fun m hm G hS hfr hT => ?_, fun hh => absurd hh (by simp)⟩
  · rcases List.mem_cons.mp hy with e | e
    · rw [e]; exact hN2.2.2
    · exact hZn y (sub y e)
  · rw [ts]
    by_cases k : kn (ks X f) p = 17
    · rw [if_pos k, if_pos k]; rfl
    · rw [if_neg k, if_neg k]; rfl
  · rw [ts]
    unfold prR
    by_cases k : kn (ks X f) p = 17
    · rw [if_pos k, if_pos k, if_pos k]
      exact hM1.push_st (Or.inr ⟨rfl, rfl⟩) hN2.1 hn' hA zbu.2.2.2
    · rw [if_neg k, if_neg k, if_neg k]
      by_cases k8 : kn (ks X f) p = 18
      · rw [if_pos k8, if_pos k8]
        exact hM2.push_st (Or.inr ⟨rfl, rfl⟩) hN2.1 hn' hA zbu.2.2.2
      · rw [if_neg k8, if_neg k8]
        exact hM2.push_st (Or.inl ⟨rfl, rfl⟩) hN2.1 hn' hA zbu.2.2.2
  · obtain rfl : n = m := by injection hm
    have e := fr27 hfr
    have := s_272b (vf := (vf : Int)) (l := zu.2.1) (r := zv.2.1) hS hT hN2.2.2 znu znv (by rw [e 221 (by decide) (by decide)]; exact h21) (by rw [e 222 (by decide) (by decide), h22]; omega) (by rw [e 224 (by decide) (by decide)]; exact h24) (by rw [e 225 (by decide) (by decide)]; exact h25) (by show E'.length + 2 < 2000; omega) hf (fun k hk => by
      rw [e 223 (by decide) (by decide)]
      rcases hk with rfl | rfl
      · rw [h23]; omega
      · rw [h23v]; omega)
    rw [e 223 (by decide) (by decide), h23, h23v, e 222 (by decide) (by decide), h22] at this
    exact CaV.on this (fun F' _ k => ⟨k.1, hfr.tr k.2⟩)
theorem tw_grp (hB : BaseR F X) (hf : f < 3) (hi : i < (Cw X f).length) (hw : gx (Cw X f) i = w) (hJ : TJ X A N Z (h, E) (H, T, E')) (hA : ∀ s, A' s → A s) (hA2 : ∀ t : Nat, bset X f w (t : Int) → ¬ A' (200 * f + t)) (hA3 : ∀ t : Nat, bset X f w (t : Int) → bnd X (200 * f + t) = -1 → A (200 * f + t)) (hN : ∀ m, N' m → N m) (hZn : ∀ z ∈ Z, z.2.1 < 1600) (hE : E.length + Z.length + 3 < 2000) {z : Z3} {e o : Nat} (hZ : Z = z :: Z') (e1 : w = mk 18 o e) :
    WRes F X f fn vf A' N' w [] ((z.2.1, (o : Int)) :: NZ Z') h (TZ f Z) E (H, T, E') := by
  have hX := hB.1
  have lk := toks_len hX hf
  have hwc := Cw_wc hX hf hi
  rw [hw] at hwc
  rw [e1] at hwc
  obtain ⟨hp, he⟩ := mk18 hwc
  subst he
  have w1 := wo_mk (o := 18) (t := o) (e := 0) (by decide)
  have w2 := wt_mk (o := 18) (t := o) (e := 0) (by decide) (by omega)
  have tZ : TZ f Z = (z.1, 200 * (f : Int) + z.2.2) :: TZ f Z' := by rw [hZ]; rfl
  have ts := ts_18 (X := X) (f := f) (fn := fn) (h := h) (E := E) (a := (z.1, 200 * (f : Int) + z.2.2)) (st := TZ f Z') (w := w) (by rw [e1]; exact w1)
  rw [e1, w2, Int.toNat_natCast, ← e1, ← tZ] at ts
  refine ⟨(z.1, z.2.1, (o : Int)) :: Z', (H, T, E'), rfl, fun y hy => ?_, ?_, ?_, fun m hm => absurd hm (by simp), fun _ => rfl⟩
  · rcases List.mem_cons.mp hy with e | e
    · rw [e]; exact hZn z (by rw [hZ]; exact List.mem_cons_self)
    · exact hZn y (by rw [hZ]; exact List.mem_cons_of_mem _ e)
  · rw [ts]
    show _ :: TZ f Z' = _ :: TZ f Z'
    congr 2
  · rw [ts]
    have hJ' := hJ.mo (Z' := z :: Z') (fun y hy => by rw [hZ]; exact hy) hA hN
    exact hJ'.grp (by omega)
end Mb8
