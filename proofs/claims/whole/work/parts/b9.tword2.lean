/-! TYPES: a call, and statements, on both sides -/
section Mb9
variable {F G : MF} {X : Nat → List Int} {A N A' N' : Nat → Prop} {Z Z' : List Z3} {h H : Nat → Nat} {T : Nat → Int} {E E' : List Int} {n f i fn vf p tf : Nat} {w : Int} {q : TQ} {r : TR} {a b : Nat × Int} {st : List (Nat × Int)}
theorem NZ_take {k : Nat} : NZ (Z.take k) = (NZ Z).take k := List.map_take
theorem TZ_take {k : Nat} : TZ f (Z.take k) = (TZ f Z).take k := List.map_take
theorem TZ_drop {k : Nat} : TZ f (Z.drop k) = (TZ f Z).drop k := List.map_drop
theorem NZ_drop {k : Nat} : NZ (Z.drop k) = (NZ Z).drop k := List.map_drop
theorem NZ_len : (NZ Z).length = Z.length := List.length_map ..
theorem TZ_len : (TZ f Z).length = Z.length := List.length_map ..
theorem TZ_rev : TZ f Z.reverse = (TZ f Z).reverse := List.map_reverse
theorem NZ_rev : NZ Z.reverse = (NZ Z).reverse := List.map_reverse
theorem tw_call (hB : BaseR F X) (hf : f < 3) (hi : i < (Cw X f).length) (hw : gx (Cw X f) i = w) (hJ : TJ X A N Z (h, E) (H, T, E')) (hA : ∀ s, A' s → A s) (hA2 : ∀ t : Nat, bset X f w (t : Int) → ¬ A' (200 * f + t)) (hA3 : ∀ t : Nat, bset X f w (t : Int) → bnd X (200 * f + t) = -1 → A (200 * f + t)) (hN : ∀ m, N' m → N m) (hZn : ∀ z ∈ Z, z.2.1 < 1600) (hE : E.length + Z.length + 3 < 2000) (hN2 : N n ∧ ¬ N' n ∧ n < 1600) {as rs : List (Nat × Int)} (hZ : NZ Z = as ++ rs) (e1 : w = mk 15 p as.length) (hp : p < 256) (h21 : F 221 n = 14) (h22 : F 222 n = (p : Int)) (h24 : ArC F (F 224 n) as.reverse (-1)) :
    WRes F X f fn vf A' N' w [n] ((n, (p : Int)) :: rs) h (TZ f Z) E (H, T, E') := by
  have hX := hB.1
  have lk := toks_len hX hf
  have hwc := Cw_wc hX hf hi
  rw [hw] at hwc
  have hn' : ∀ m, N' m → N m ∧ m ≠ n := fun m hm => ⟨hN m hm, fun e => hN2.2.1 (by rw [← e]; exact hm)⟩
  have zl : Z.length = as.length + rs.length := by rw [← NZ_len, hZ, List.length_append]
  obtain ⟨k, hk⟩ : ∃ k, k = as.length := ⟨_, rfl⟩
  have eas : as = NZ (Z.take k) := by rw [NZ_take, hZ, hk, List.take_left]
  have ers : rs = NZ (Z.drop k) := by rw [NZ_drop, hZ, hk, List.drop_left]
  rw [← hk] at e1
  have hwp : gx (Cw X f) i = mk 15 p k := hw.trans e1
  rw [e1] at hwc
  have k0 := mk7 hp (Or.inr (Or.inr rfl)) hwc
  have hp2 : p < (toks X f).length := kn_tok (by rw [k0]; decide)
  have w1 := wo_mk (o := 15) (t := p) (e := k) (by decide)
  have w2 := wt_mk (o := 15) (t := p) (e := k) (by decide) hp
  have w3 := we_mk (o := 15) (t := p) (e := k) (by decide) hp
  have bs : bset X f w (p : Int) := by rw [e1]; exact (bset_1 (Or.inr (Or.inr (Or.inl rfl))) hp).mpr rfl
  have fs := hJ.fresh hN2.1
  have hid : 200 * f + p < 600 := by omega
  have el := hJ.el
  have hpp : (0 : Int) ≤ (p : Int) ∧ (p : Int) < 200 := by omega
  have ts := ts_15 (X := X) (f := f) (fn := fn) (h := h) (E := E) (st := TZ f Z) (w := w) (by rw [e1]; exact w1)
  rw [e1, w2, w3, Int.toNat_natCast, Int.toNat_natCast, ← e1, ← TZ_take, ← TZ_drop, ← TZ_rev] at ts
  have sub : ∀ y ∈ Z.drop k, y ∈ Z := fun y hy => List.mem_of_mem_drop hy
  have sub2 : ∀ y ∈ (Z.take k).reverse, y ∈ Z := fun y hy => List.mem_of_mem_take (List.mem_reverse.mp hy)
  have alen : as.reverse.length = k := by rw [List.length_reverse, hk]
  have tl : (Z.take k).reverse.length = k := by rw [List.length_reverse, List.length_take]; omega
  have ear : as.reverse = NZ (Z.take k).reverse := by rw [NZ_rev, ← eas]
  have trp : ((200 * f + p : Nat) : Int) = 200 * (f : Int) + (p : Int) := by omega
  refine ⟨(slo X f p, n, (p : Int)) :: Z.drop k, callR X f n p as.reverse (H, T, E'), by rw [ers]; rfl, fun z hz => ?_, ?_, ?_, fun m hm G hS hfr hT => ?_, fun hh => absurd hh (by simp)⟩
  · rcases List.mem_cons.mp hz with e | e
    · rw [e]; exact hN2.2.2
    · exact hZn z (sub z e)
  · rw [ts]
    show _ :: TZ f (Z.drop k) = _ :: TZ f (Z.drop k)
    congr 2
  · have key : TJ X A' N' ((slo X f p, n, (p : Int)) :: Z.drop k) (callT X f p (k : Int) (TZ f (Z.take k).reverse) (h, E)) (callR X f n p as.reverse (H, T, E')) := by
      unfold callT callR slo
      by_cases b1 : bnd X (200 * f + p) = -1
      · rw [if_pos b1, if_pos b1, if_pos b1]
        exact (hJ.mo sub (fun s hs => hs) (fun m hm => hm)).push_own (hA3 p bs b1) (hA2 p bs) hN2.1 hn' hA hpp
      · rw [if_neg b1, if_neg b1, if_neg b1, alen]
        obtain ⟨d1, d2⟩ := bnd_D hX hid b1
        obtain ⟨v, hv⟩ : ∃ v, v = (bnd X (200 * f + p)).toNat := ⟨_, rfl⟩
        rw [← hv] at d1 d2 ⊢
        have hlk := hJ.push_lk (Or.inl ⟨d1, rfl⟩) hN2.1 hn' hA hpp
        by_cases c : ppar X v = (k : Int)
        · rw [if_pos c, if_pos c, ear]
          have := TJ.arg (f := f) (v := v) (Z.take k).reverse 0 _ _ (fun z hz => List.mem_cons_of_mem _ (sub2 z hz)) hlk (fun j _ h2 => ppar_D hX d1.1 c j (by omega))
          refine this.mo (fun y hy => ?_) (fun s hs => hs) (fun m hm => hm)
          rcases List.mem_cons.mp hy with e | e
          · rw [e]; exact List.mem_cons_self
          · exact List.mem_cons_of_mem _ (sub y e)
        · rw [if_neg c, if_neg c]
          have := hlk.err (e := 1000 * (f : Int) + (p : Int)) (fi := ((200 * f + p : Nat) : Int)) (by rw [trp]; exact tri_at (f := f) hpp)
          refine TJ.mo this (fun y hy => ?_) (fun s hs => hs) (fun m hm => hm)
          rcases List.mem_cons.mp hy with e | e
          · rw [e]; exact List.mem_cons_self
          · exact List.mem_cons_of_mem _ (sub y e)
    rw [ts]
    revert key
    generalize callT X f p (k : Int) (TZ f (Z.take k).reverse) (h, E) = y
    intro key
    obtain ⟨y1, y2⟩ := y
    exact key
  · obtain rfl : n = m := by injection hm
    have e := fr27 hfr
    obtain ⟨-, b2, b3, b4⟩ := hB.cong hfr
    have hb3 : ∀ a ∈ as.reverse, a.1 < 1600 ∧ -1 ≤ a.2 ∧ a.2 < 1000 := fun a ha => by
      rw [ear] at ha
      obtain ⟨z, hz, rfl⟩ := List.mem_map.mp ha
      have zb := hJ.2.2.1 z (sub2 z hz)
      exact ⟨hZn z (sub2 z hz), by show -1 ≤ z.2.2; omega, by show z.2.2 < 1000; omega⟩
    refine CaV.on (s_272k (vf := (vf : Int)) (as := as.reverse) hS hX hT hN2.2.2 hf (by rw [e 221 (by decide) (by decide)]; exact h21) b2 b3 (fun a ha => (hb3 a ha).2) (by rw [e 222 (by decide) (by decide)]; exact h22) hid (by rw [e 224 (by decide) (by decide)]; exact ArC.cong (fun c x y => e c (by omega) (by omega)) _ _ _ h24) (fun a ha => (hb3 a ha).1) (by show E'.length + as.reverse.length + 1 < 2000; omega) fs.1 (fun v hv => ⟨(bnd_call hX hf hi hwp hp hv).2, fun e0 => ?_⟩)) (fun F' _ k => ⟨k.1, hfr.tr k.2⟩)
    have := bnd_rng hX (200 * f + p) hid
    have := (hJ.2.2.2.2.1 n hN2.1).2.2 v e0
    omega
theorem tw_set (hB : BaseR F X) (hf : f < 3) (hi : i < (Cw X f).length) (hw : gx (Cw X f) i = w) (hJ : TJ X A N Z (h, E) (H, T, E')) (hA : ∀ s, A' s → A s) (hA2 : ∀ t : Nat, bset X f w (t : Int) → ¬ A' (200 * f + t)) (hA3 : ∀ t : Nat, bset X f w (t : Int) → bnd X (200 * f + t) = -1 → A (200 * f + t)) (hN : ∀ m, N' m → N m) (hZn : ∀ z ∈ Z, z.2.1 < 1600) (hE : E.length + Z.length + 3 < 2000) (hN2 : N n ∧ ¬ N' n ∧ n < 1600) {z : Z3} {o kd e : Nat} (hZ : Z = [z]) (ho : (o = 7 ∧ kd = 5) ∨ (o = 8 ∧ kd = 6)) (e1 : w = mk o p e) (hp : p < 256) (h21 : F 221 n = (kd : Int)) (h22 : F 222 n = (p : Int)) (h24 : F 224 n = (z.2.1 : Int)) (h23 : F 223 z.2.1 = z.2.2) :
    WRes F X f fn vf A' N' w [n] [] h (TZ f Z) E (H, T, E') := by
  have hX := hB.1
  have lk := toks_len hX hf
  have hwc := Cw_wc hX hf hi
  rw [hw] at hwc
  rw [e1] at hwc
  have k0 := mk7 hp (by omega) hwc
  have hp2 : p < (toks X f).length := kn_tok (by rw [k0]; decide)
  have w1 := wo_mk (o := o) (t := p) (e := e) (by omega)
  have w2 := wt_mk (o := o) (t := p) (e := e) (by omega) hp
  have bs : bset X f w (p : Int) := by rw [e1]; exact (bset_1 (by omega) hp).mpr rfl
  have hz : z ∈ Z := by rw [hZ]; exact List.mem_cons_self
  have zb := hJ.2.2.1 z hz
  have zn := hZn z hz
  have el := hJ.el
  have hid : 200 * f + p < 600 := by omega
  have tZ : TZ f Z = (z.1, 200 * (f : Int) + z.2.2) :: [] := by rw [hZ]; rfl
  have ts := ts_78 (X := X) (f := f) (fn := fn) (h := h) (E := E) (a := (z.1, 200 * (f : Int) + z.2.2)) (st := []) (w := w) (by rw [e1, w1]; omega)
  rw [e1, w2, Int.toNat_natCast, ← e1, ← tZ] at ts
  have Pz : PZ X Z z.1 (600 + z.2.1) := Or.inr ⟨z, hz, rfl, rfl⟩
  refine ⟨[], ltR X f p z.2.1 (1000 * (f : Int) + z.2.2) (H, T, E'), rfl, fun y hy => absurd hy (List.not_mem_nil), by rw [ts]; rfl, ?_, fun m hm G hS hfr hT => ?_, fun hh => absurd hh (by simp)⟩
  · rw [ts]
    unfold slo ltR
    by_cases b1 : bnd X (200 * f + p) = -1
    · rw [if_pos b1, if_pos b1]
      exact (hJ.out (fi := 200 * (f : Int) + z.2.2) Pz (hA3 p bs b1) (hA2 p bs) hA).mo (fun y hy => absurd hy (List.not_mem_nil)) (fun s hs => hs) hN
    · rw [if_neg b1, if_neg b1]
      exact (hJ.jn Pz (Or.inl ⟨(bnd_D hX hid b1).1, rfl⟩) (tri_at (f := f) zb.2.2.2)).mo (fun y hy => absurd hy (List.not_mem_nil)) hA hN
  · obtain rfl : n = m := by injection hm
    have e := fr27 hfr
    obtain ⟨-, b2, b3, b4⟩ := hB.cong hfr
    have := s_272s (vf := (vf : Int)) (u := z.2.1) (t := p) hS hX hT hN2.2.2 zn hf (by rw [e 221 (by decide) (by decide), h21]; omega) (by rw [e 222 (by decide) (by decide)]; exact h22) hid (by rw [e 224 (by decide) (by decide)]; exact h24) b2 (by rw [e 223 (by decide) (by decide), h23]; omega) (by show E'.length < 2000; omega)
    rw [e 223 (by decide) (by decide), h23] at this
    exact CaV.on this (fun F' _ k => ⟨k.1, hfr.tr k.2⟩)
theorem tw_drop (hB : BaseR F X) (hf : f < 3) (hi : i < (Cw X f).length) (hw : gx (Cw X f) i = w) (hJ : TJ X A N Z (h, E) (H, T, E')) (hA : ∀ s, A' s → A s) (hA2 : ∀ t : Nat, bset X f w (t : Int) → ¬ A' (200 * f + t)) (hA3 : ∀ t : Nat, bset X f w (t : Int) → bnd X (200 * f + t) = -1 → A (200 * f + t)) (hN : ∀ m, N' m → N m) (hZn : ∀ z ∈ Z, z.2.1 < 1600) (hE : E.length + Z.length + 3 < 2000) (hN2 : N n ∧ ¬ N' n ∧ n < 1600) {z : Z3} {e : Nat} (hZ : Z = [z]) (e1 : w = mk 9 p e) (hp : p < 256) (h21 : F 221 n = 7) (h22 : F 222 n = (p : Int)) :
    WRes F X f fn vf A' N' w [n] [] h (TZ f Z) E (H, T, E') := by
  have hX := hB.1
  have lk := toks_len hX hf
  have hwc := Cw_wc hX hf hi
  rw [hw] at hwc
  have w1 := wo_mk (o := 9) (t := p) (e := e) (by decide)
  have tZ : TZ f Z = (z.1, 200 * (f : Int) + z.2.2) :: [] := by rw [hZ]; rfl
  have ts := ts_9 (X := X) (f := f) (fn := fn) (h := h) (E := E) (a := (z.1, 200 * (f : Int) + z.2.2)) (st := []) (w := w) (by rw [e1, w1]; rfl)
  rw [← tZ] at ts
  refine ⟨[], (H, T, E'), rfl, fun y hy => absurd hy (List.not_mem_nil), by rw [ts]; rfl, ?_, fun m hm G hS hfr hT => ?_, fun hh => absurd hh (by simp)⟩
  · rw [ts]
    exact hJ.mo (fun y hy => absurd hy (List.not_mem_nil)) hA hN
  · obtain rfl : n = m := by injection hm
    have e := fr27 hfr
    exact CaV.on (s_272o (vf := (vf : Int)) hS hT hN2.2.2 hf (by rw [e 221 (by decide) (by decide), h21]; omega) (by rw [e 222 (by decide) (by decide), h22]; omega)) (fun F' _ k => ⟨k.1, hfr.tr k.2⟩)
theorem tw_ret (hB : BaseR F X) (hf : f < 3) (hi : i < (Cw X f).length) (hw : gx (Cw X f) i = w) (hJ : TJ X A N Z (h, E) (H, T, E')) (hA : ∀ s, A' s → A s) (hA2 : ∀ t : Nat, bset X f w (t : Int) → ¬ A' (200 * f + t)) (hA3 : ∀ t : Nat, bset X f w (t : Int) → bnd X (200 * f + t) = -1 → A (200 * f + t)) (hN : ∀ m, N' m → N m) (hZn : ∀ z ∈ Z, z.2.1 < 1600) (hE : E.length + Z.length + 3 < 2000) (hN2 : N n ∧ ¬ N' n ∧ n < 1600) {z : Z3} {e : Nat} (hfn : Dc X fn ∧ fn = 200 * f + tf ∧ F 222 vf = (tf : Int) ∧ vf < 1600) (hZ : Z = [z]) (e1 : w = mk 10 p e) (hp : p < 256) (h21 : F 221 n = 9) (h22 : F 222 n = (p : Int)) (h24 : F 224 n = (z.2.1 : Int)) (h23 : F 223 z.2.1 = z.2.2) :
    WRes F X f fn vf A' N' w [n] [] h (TZ f Z) E (H, T, E') := by
  have hX := hB.1
  have lk := toks_len hX hf
  have hwc := Cw_wc hX hf hi
  rw [hw] at hwc
  have w1 := wo_mk (o := 10) (t := p) (e := e) (by decide)
  have hz : z ∈ Z := by rw [hZ]; exact List.mem_cons_self
  have zb := hJ.2.2.1 z hz
  have zn := hZn z hz
  have el := hJ.el
  have tZ : TZ f Z = (z.1, 200 * (f : Int) + z.2.2) :: [] := by rw [hZ]; rfl
  have ts := ts_10 (X := X) (f := f) (fn := fn) (h := h) (E := E) (a := (z.1, 200 * (f : Int) + z.2.2)) (st := []) (w := w) (by rw [e1, w1]; rfl)
  rw [← tZ] at ts
  obtain ⟨d1, d2, d3, d4⟩ := hfn
  refine ⟨[], jnR (H, T, E') (600 + z.2.1) fn (1000 * (f : Int) + z.2.2), rfl, fun y hy => absurd hy (List.not_mem_nil), by rw [ts]; rfl, ?_, fun m hm G hS hfr hT => ?_, fun hh => absurd hh (by simp)⟩
  · rw [ts]
    exact (hJ.jn (Or.inr ⟨z, hz, rfl, rfl⟩) (Or.inl ⟨d1, rfl⟩) (tri_at (f := f) zb.2.2.2)).mo (fun y hy => absurd hy (List.not_mem_nil)) hA hN
  · obtain rfl : n = m := by injection hm
    have e := fr27 hfr
    have := s_272r (u := z.2.1) (v := vf) (t := tf) hS hT hN2.2.2 zn d4 hf (by rw [e 221 (by decide) (by decide)]; exact h21) (by rw [e 222 (by decide) (by decide), h22]; omega) (by rw [e 222 (by decide) (by decide)]; exact d3) (by rw [← d2]; exact d1.1) (by rw [e 224 (by decide) (by decide)]; exact h24) (by rw [e 223 (by decide) (by decide), h23]; omega) (by show E'.length < 2000; omega)
    rw [e 223 (by decide) (by decide), h23, ← d2] at this
    exact CaV.on this (fun F' _ k => ⟨k.1, hfr.tr k.2⟩)
theorem tw_if (hB : BaseR F X) (hf : f < 3) (hi : i < (Cw X f).length) (hw : gx (Cw X f) i = w) (hJ : TJ X A N Z (h, E) (H, T, E')) (hA : ∀ s, A' s → A s) (hA2 : ∀ t : Nat, bset X f w (t : Int) → ¬ A' (200 * f + t)) (hA3 : ∀ t : Nat, bset X f w (t : Int) → bnd X (200 * f + t) = -1 → A (200 * f + t)) (hN : ∀ m, N' m → N m) (hZn : ∀ z ∈ Z, z.2.1 < 1600) (hE : E.length + Z.length + 3 < 2000) (hN2 : N n ∧ ¬ N' n ∧ n < 1600) {z : Z3} {e : Nat} (hZ : Z = [z]) (e1 : w = mk 11 p e) (hp : p < 8388608) (h21 : F 221 n = 10) (h22 : F 222 n = (p : Int)) (h24 : F 224 n = (z.2.1 : Int)) (h23 : F 223 z.2.1 = z.2.2) :
    WRes F X f fn vf A' N' w [n] [] h (TZ f Z) E (H, T, E') := by
  have hX := hB.1
  have lk := toks_len hX hf
  have hwc := Cw_wc hX hf hi
  rw [hw] at hwc
  have w1 := wo_mk (o := 11) (t := p) (e := e) (by decide)
  have hz : z ∈ Z := by rw [hZ]; exact List.mem_cons_self
  have zb := hJ.2.2.1 z hz
  have zn := hZn z hz
  have el := hJ.el
  have tZ : TZ f Z = (z.1, 200 * (f : Int) + z.2.2) :: [] := by rw [hZ]; rfl
  have ts := ts_11 (X := X) (f := f) (fn := fn) (h := h) (E := E) (a := (z.1, 200 * (f : Int) + z.2.2)) (st := []) (w := w) (by rw [e1, w1]; rfl)
  rw [← tZ] at ts
  refine ⟨[], muR (H, T, E') (600 + z.2.1) 2 (1000 * (f : Int) + z.2.2), rfl, fun y hy => absurd hy (List.not_mem_nil), by rw [ts]; rfl, ?_, fun m hm G hS hfr hT => ?_, fun hh => absurd hh (by simp)⟩
  · rw [ts]
    exact (hJ.mu (Or.inr ⟨z, hz, rfl, rfl⟩) (Or.inr ⟨rfl, rfl⟩) (tri_at (f := f) zb.2.2.2)).mo (fun y hy => absurd hy (List.not_mem_nil)) hA hN
  · obtain rfl : n = m := by injection hm
    have e := fr27 hfr
    have := s_272c (vf := (vf : Int)) (u := z.2.1) hS hT hN2.2.2 zn hf (by rw [e 221 (by decide) (by decide)]; exact h21) (by rw [e 222 (by decide) (by decide), h22]; omega) (by rw [e 224 (by decide) (by decide)]; exact h24) (by rw [e 223 (by decide) (by decide), h23]; omega) (by show E'.length < 2000; omega)
    rw [e 223 (by decide) (by decide), h23] at this
    exact CaV.on this (fun F' _ k => ⟨k.1, hfr.tr k.2⟩)
theorem tw_no1 (hB : BaseR F X) (hf : f < 3) (hi : i < (Cw X f).length) (hw : gx (Cw X f) i = w) (hJ : TJ X A N Z (h, E) (H, T, E')) (hA : ∀ s, A' s → A s) (hA2 : ∀ t : Nat, bset X f w (t : Int) → ¬ A' (200 * f + t)) (hA3 : ∀ t : Nat, bset X f w (t : Int) → bnd X (200 * f + t) = -1 → A (200 * f + t)) (hN : ∀ m, N' m → N m) (hZn : ∀ z ∈ Z, z.2.1 < 1600) (hE : E.length + Z.length + 3 < 2000) (hN2 : N n ∧ ¬ N' n ∧ n < 1600) {o e a : Nat} (hZ : Z = []) (ho : o < 14) (e1 : w = mk o a e) (ha : a < 8388608) (h21 : F 221 n = 3 ∨ F 221 n = 12) (h22 : F 222 n = (a : Int)) :
    WRes F X f fn vf A' N' w [n] [] h (TZ f Z) E (H, T, E') := by
  have hX := hB.1
  have lk := toks_len hX hf
  have hwc := Cw_wc hX hf hi
  rw [hw] at hwc
  have w1 := wo_mk (o := o) (t := a) (e := e) (by omega)
  have ts := ts_nil (X := X) (f := f) (fn := fn) (h := h) (E := E) (w := w) (by rw [e1, w1]; omega) (by rw [e1, w1]; omega)
  have tZ : TZ f Z = [] := by rw [hZ]; rfl
  rw [← tZ] at ts
  refine ⟨[], (H, T, E'), rfl, fun y hy => absurd hy (List.not_mem_nil), by rw [ts]; exact tZ, ?_, fun m hm G hS hfr hT => ?_, fun hh => absurd hh (by simp)⟩
  · rw [ts]
    exact hJ.mo (fun y hy => absurd hy (List.not_mem_nil)) hA hN
  · obtain rfl : n = m := by injection hm
    have e := fr27 hfr
    exact CaV.on (s_272o (vf := (vf : Int)) hS hT hN2.2.2 hf (by rw [e 221 (by decide) (by decide)]; omega) (by rw [e 222 (by decide) (by decide), h22]; omega)) (fun F' _ k => ⟨k.1, hfr.tr k.2⟩)
theorem tw_no0 (hB : BaseR F X) (hf : f < 3) (hi : i < (Cw X f).length) (hw : gx (Cw X f) i = w) (hJ : TJ X A N Z (h, E) (H, T, E')) (hA : ∀ s, A' s → A s) (hA2 : ∀ t : Nat, bset X f w (t : Int) → ¬ A' (200 * f + t)) (hA3 : ∀ t : Nat, bset X f w (t : Int) → bnd X (200 * f + t) = -1 → A (200 * f + t)) (hN : ∀ m, N' m → N m) (hZn : ∀ z ∈ Z, z.2.1 < 1600) (hE : E.length + Z.length + 3 < 2000) {o e a : Nat} (hZ : Z = []) (ho : o < 14) (e1 : w = mk o a e) :
    WRes F X f fn vf A' N' w [] [] h (TZ f Z) E (H, T, E') := by
  have w1 := wo_mk (o := o) (t := a) (e := e) (by omega)
  have ts := ts_nil (X := X) (f := f) (fn := fn) (h := h) (E := E) (w := w) (by rw [e1, w1]; omega) (by rw [e1, w1]; omega)
  have tZ : TZ f Z = [] := by rw [hZ]; rfl
  rw [← tZ] at ts
  refine ⟨[], (H, T, E'), rfl, fun y hy => absurd hy (List.not_mem_nil), by rw [ts]; exact tZ, ?_, fun m hm => absurd hm (by simp), fun _ => rfl⟩
  rw [ts]
  exact hJ.mo (fun y hy => absurd hy (List.not_mem_nil)) hA hN
theorem NZ_nil (hZ : NZ Z = []) : Z = [] := List.map_eq_nil_iff.mp hZ
theorem NZ_cons {r : List (Nat × Int)} (hZ : NZ Z = a :: r) : ∃ (z : Z3) (Z' : List Z3), Z = z :: Z' ∧ z.2.1 = a.1 ∧ z.2.2 = a.2 ∧ NZ Z' = r := by
  cases Z with
  | nil => cases hZ
  | cons z Z' =>
    have h1 : ((z.2.1, z.2.2) : Nat × Int) :: NZ Z' = a :: r := hZ
    injection h1 with h2 h3
    exact ⟨z, Z', rfl, by rw [← h2], by rw [← h2], h3⟩
/-- any word -/
theorem tword {s : SS} {L1 : List Nat} {ns1 : List (Nat × Int)} (hB : BaseR F X) (hf : f < 3) (hi : i < (Cw X f).length) (hw : gx (Cw X f) i = w) (hJ : TJ X A N Z (h, E) (H, T, E')) (hA : ∀ s, A' s → A s) (hA2 : ∀ t : Nat, bset X f w (t : Int) → ¬ A' (200 * f + t)) (hA3 : ∀ t : Nat, bset X f w (t : Int) → bnd X (200 * f + t) = -1 → A (200 * f + t)) (hN : ∀ m, N' m → N m) (hZn : ∀ z ∈ Z, z.2.1 < 1600) (hE : E.length + Z.length + 3 < 2000) (hN2 : ∀ m ∈ L1, N m ∧ ¬ N' m ∧ m < 1600) (hfn : Dc X fn ∧ fn = 200 * f + tf ∧ F 222 vf = (tf : Int) ∧ vf < 1600) (hO : OSw F (ks X f) vf s (NZ Z) w L1 ns1) :
    WRes F X f fn vf A' N' w L1 ns1 h (TZ f Z) E (H, T, E') := by
  have hX := hB.1
  have h32 := (Fw_len hX hf).2.2.2 i hi
  rw [hw] at h32
  have hwc := Cw_wc hX hf hi
  rw [hw] at hwc
  have mb : ∀ {o a e : Nat}, w = mk o a e → a < 8388608 := fun {o a e} h => mk_b (o := o) (e := e) (by rw [← h]; exact h32.2)
  rcases hO with ⟨p, n, e1, rfl, h1, h2, rfl⟩ | ⟨p, n, u, f0, r, e1, rfl, hz, h1, h2, h3, h4, rfl⟩ | ⟨p, n, u, v, f0, f2, r, e1, rfl, hz, h1, h2, h3, h4, h5, h6, rfl⟩ | ⟨o, e, u, f0, r, e1, rfl, hz, rfl⟩ | ⟨p, n, as, r, e1, rfl, hz, h1, h2, h3, rfl, hp⟩ | ⟨o, kd, p, e, n, u, f0, ho, e1, rfl, hz, h1, h2, h3, h4, -, rfl, hp⟩ | ⟨a, n, e1, rfl, h1, hz, rfl, h2⟩ | ⟨o, t, e, ho, e1, rfl, hz, rfl⟩ | ⟨a, n, e1, rfl, h1, hz, rfl, h2⟩
  · exact tw_leaf hB hf hi hw hJ hA hA2 hA3 hN hZn hE (hN2 n (List.mem_singleton.mpr rfl)) e1 h1 h2
  · obtain ⟨z, Z', z1, z2, z3, rfl⟩ := NZ_cons hz
    change z.2.1 = u at z2
    change z.2.2 = f0 at z3
    exact tw_not hB hf hi hw hJ hA hA2 hA3 hN hZn hE (hN2 n (List.mem_singleton.mpr rfl)) z1 e1 h1 h2 (by rw [z2]; exact h3) (by rw [z2, z3]; exact h4)
  · obtain ⟨zv, Z1, z1, z2, z3, z4⟩ := NZ_cons hz
    obtain ⟨zu, Z', y1, y2, y3, rfl⟩ := NZ_cons z4
    change zv.2.1 = v at z2
    change zv.2.2 = f2 at z3
    change zu.2.1 = u at y2
    change zu.2.2 = f0 at y3
    have := tw_pair hB hf hi hw hJ hA hA2 hA3 hN hZn hE (hN2 n (List.mem_singleton.mpr rfl)) (zu := zu) (zv := zv) (Z' := Z') (fn := fn) (vf := vf) (by rw [z1, y1]) e1 h1 h2 (by rw [y2]; exact h3) (by rw [z2]; exact h4) (by rw [y2, y3]; exact h5) (by rw [z2, z3]; exact h6)
    rw [y3] at this
    exact this
  · obtain ⟨z, Z', z1, z2, z3, rfl⟩ := NZ_cons hz
    change z.2.1 = u at z2
    have := tw_grp hB hf hi hw hJ hA hA2 hA3 hN hZn hE (fn := fn) (vf := vf) z1 e1
    rw [z2] at this
    exact this
  · exact tw_call hB hf hi hw hJ hA hA2 hA3 hN hZn hE (hN2 n (List.mem_singleton.mpr rfl)) hz e1 hp h1 h2 h3
  · obtain ⟨z, Z', z1, z2, z3, z4⟩ := NZ_cons hz
    rw [NZ_nil z4] at z1
    change z.2.1 = u at z2
    change z.2.2 = f0 at z3
    have hn2 := hN2 n (List.mem_singleton.mpr rfl)
    have h3' : F 224 n = (z.2.1 : Int) := by rw [z2]; exact h3
    have h4' : F 223 z.2.1 = z.2.2 := by rw [z2, z3]; exact h4
    rcases ho with ⟨rfl, rfl⟩ | ⟨rfl, rfl⟩ | ⟨rfl, rfl⟩ | ⟨rfl, rfl⟩ | ⟨rfl, rfl⟩
    · exact tw_set hB hf hi hw hJ hA hA2 hA3 hN hZn hE hn2 z1 (Or.inl ⟨rfl, rfl⟩) e1 (hp (by decide)) h1 h2 h3' h4'
    · exact tw_set hB hf hi hw hJ hA hA2 hA3 hN hZn hE hn2 z1 (Or.inr ⟨rfl, rfl⟩) e1 (hp (by decide)) h1 h2 h3' h4'
    · exact tw_drop hB hf hi hw hJ hA hA2 hA3 hN hZn hE hn2 z1 e1 (hp (by decide)) h1 h2
    · exact tw_ret hB hf hi hw hJ hA hA2 hA3 hN hZn hE hn2 hfn z1 e1 (hp (by decide)) h1 h2 h3' h4'
    · exact tw_if hB hf hi hw hJ hA hA2 hA3 hN hZn hE hn2 z1 e1 (mb e1) h1 h2 h3' h4'
  · exact tw_no1 hB hf hi hw hJ hA hA2 hA3 hN hZn hE (hN2 n (List.mem_singleton.mpr rfl)) (NZ_nil hz) (by decide) e1 (mb e1) (Or.inr h1) h2
  · exact tw_no0 hB hf hi hw hJ hA hA2 hA3 hN hZn hE (NZ_nil hz) (by omega) e1
  · exact tw_no1 hB hf hi hw hJ hA hA2 hA3 hN hZn hE (hN2 n (List.mem_singleton.mpr rfl)) (NZ_nil hz) (by decide) e1 (mb e1) (Or.inl h1) h2
end Mb9
