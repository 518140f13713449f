/-! TYPES: the items of a file, all files, on both sides -/
section Mc1
variable {F G : MF} {X : Nat → List Int} {f c : Nat}
theorem ts_nil2 {fn : Nat} {w : Int} {h : Nat → Nat} {E : List Int} (h1 : wo w < 14) : tstep X f fn w (h, [], E) = (h, [], E) := ts_nil (by omega) (by omega)
theorem bx_0 {w : Int} (h : wo w < 14) : bx w = 0 := by unfold bx; rw [if_neg (by omega)]
theorem l_273i (hB : BaseR F X) (hf : f < 3) (top tp2 : Nat) : ∀ (I : List IT) (c lo lo2 : Nat) (x : Int) (G : MF) (h : Nat → Nat) (E : List Int) (r : TR) (fn : Nat) (R : MF → Prop), ItC F (ks X f) tp2 x c lo2 I (-1) → HIt F F X f top lo I → (∀ e ∈ fnsO F c I, e ∈ Fw X f) → Wat X f c (wrdO I) → frU F G → St G → TyR G r → TJ X (Ah X f c) (fun m => lo ≤ m) [] (h, E) r → E.length + 2 * sm bx (wrdO I) ≤ 1900 → top ≤ 1600 →
    (∀ (G' : MF) (h' : Nat → Nat) (E' : List Int) (r' : TR), St G' → frU F G' → TyR G' r' → TJ X (Ah X f (c + (wrdO I).length)) (fun m => lo ≤ m ∧ top ≤ m) [] (h', E') r' → trun X f (wrdO I) fn (h, [], E) = (h', [], E') → E'.length ≤ E.length + 2 * sm bx (wrdO I) → L_273_48 (f : Int) (-1) G' R m_no) → L_273_48 (f : Int) x G R m_no := by
  have hX := hB.1
  intro I
  induction I with
  | nil =>
    rintro c lo lo2 x G h E r fn R ⟨rfl, hlo⟩ - hm hW hfr hS hT hJ hE ht K
    exact K G h E r hS hfr hT (hJ.mo (fun z hz => hz) (fun s hs => hs) (fun m hm => hm.1)) rfl (Nat.le_add_right _ _)
  | cons it I ih =>
    rintro c lo lo2 x G h E r fn R ⟨rfl, hi2, hP, h3⟩ ⟨hi, g1, g2, g3, g4, g5⟩ hm hW hfr hS hT hJ hE ht K
    have hm2 : ∀ e ∈ fnsO F (c + it.2.2.2.2.2.length) I, e ∈ Fw X f := fun e he => hm e (List.mem_append_right _ he)
    obtain ⟨hWa, hWb⟩ := Wat.app (V := it.2.2.2.2.2) (W := wrdO I) hW
    have ew : wrdO (it :: I) = it.2.2.2.2.2 ++ wrdO I := rfl
    rw [ew] at hE K
    rw [sm_app] at hE
    rw [List.length_append] at K
    have hP' := hP
    obtain ⟨h1, h2, p1, p2, p3⟩ := hP'
    refine b_273_48 hS ⟨fun h => by omega, fun _ => ?_⟩
    rw [Int.toNat_natCast, hfr.nd 221 (by decide) (by decide), hfr.nd 225 (by decide) (by decide)]
    refine ⟨by omega, fun e2 => ?_, fun e2 => ⟨by omega, ?_⟩⟩
    · have hk2 : it.2.1 = 2 ∧ F 222 it.1 = (it.2.2.1 : Int) := by
        rcases h2 with h2 | h2
        · rw [h2.2.1] at e2; exact absurd e2 (by decide)
        · exact ⟨h2.1, h2.2.2.1⟩
      obtain ⟨L, W1, hO, -⟩ := g3 hk2.1
      have hO' := hO
      obtain ⟨o1, o2, o3, o4, o5, o6, o7, o8, o9, o10, o11⟩ := hO'
      have hfd : ((it.2.2.1 : Int), (it.2.2.2.1 : Int), (c : Int), F 228 it.2.2.2.2.1) ∈ Fw X f := hm _ (List.mem_append_left _ (by rw [if_pos hk2.1]; exact List.mem_singleton.mpr rfl))
      have hfn : Dc X (200 * f + it.2.2.1) ∧ 200 * f + it.2.2.1 = 200 * f + it.2.2.1 ∧ F 222 it.1 = (it.2.2.1 : Int) ∧ it.1 < 1600 := ⟨(fn_D hX hf hfd rfl).1, rfl, hk2.2, by omega⟩
      rw [o8, Int.toNat_natCast, hfr.nd 224 (by decide) (by decide)]
      refine ⟨by omega, by omega, ?_⟩
      refine CaV.on (o11 G hS hfr.nd) ?_
      intro G1 hS1 l1
      have u1 := hfr.tr l1.u
      have hB1 := hB.u u1
      rw [o1] at hWa hE
      obtain ⟨hWf, hWa2⟩ := hWa.cons
      obtain ⟨hW1, hW5⟩ := hWa2.app
      have hp0 : it.2.2.1 < 256 := (it_fn (F := F) hX hf (it :: I) c hm it (List.mem_cons_self) hk2.1).1
      have w1 := wo_mk (o := 2) (t := it.2.2.1) (e := it.2.2.2.1) (by decide)
      have w2 := wt_mk (o := 2) (t := it.2.2.1) (e := it.2.2.2.1) (by decide) hp0
      have w5 := wo_mk (o := 5) (t := 0) (e := 0) (by decide)
      rw [sm_cons, sm_app, bx_0 (by rw [w1]; decide)] at hE
      obtain ⟨Z', r', h1', E1, k1, k2, k3, k4, k5⟩ := twrun (fn := 200 * f + it.2.2.1) (vf := it.1) (tf := it.2.2.1) (hi := hi) hB1 hf ⟨hfn.1, rfl, by rw [u1.nd 222 (by decide) (by decide)]; exact hk2.2, by omega⟩ o10 W1 (c + 1) (s1 it) [] L [] h E r (OM.cong u1.nd _ _ _ _ _ o2) hW1 (hJ.mo (fun z hz => hz) (fun s hs => hs.mo) (fun m hm => by
        rcases hm with hm | hm
        · have := o3 m hm
          show lo ≤ m
          omega
        · show lo ≤ m
          omega)) o4 (fun m hm => (o3 m hm).2) (fun z hz => absurd hz (List.not_mem_nil)) (by rw [List.length_nil]; omega)
      have hZ' : Z' = [] := NZ_nil k1.symm
      subst hZ'
      have l71 : G1 201 71 = ((0 + L.length : Nat) : Int) := by rw [l1.1.2.2.2.1, ndc_len, Nat.zero_add]
      have run := k5 0 G1 R hS1 frT.rf (l1.ty hT) (fun i m hm => by
        have hi' : i < L.length := (List.getElem?_eq_some_iff.mp hm).1
        rw [Nat.zero_add, l1.1.2.2.2.2 i (by rw [ndc_len]; exact hi')]
        unfold gx ndc
        rw [List.getD_eq_getElem?_getD, List.getElem?_map, hm]
        rfl) l71 (by omega) ?_
      · exact run
      intro G2 hS2 t2 hT2
      have u2 := u1.tr t2.u
      refine b_273_80 hS2 ?_
      rw [t2.2 71 (by decide), l71]
      refine ⟨fun hh => absurd hh (by omega), fun _ => ⟨by omega, ?_⟩⟩
      rw [Int.toNat_natCast, u2.nd 227 (by decide) (by decide)]
      have trE : ∀ V, trun X f (it.2.2.2.2.2 ++ V) fn (h, [], E) = trun X f V (200 * f + it.2.2.1) (h1', [], E1) := fun V => by
        rw [o1]
        show trun X f ((W1 ++ [mk 5 0 0]) ++ V) (fnw f (mk 2 it.2.2.1 it.2.2.2.1) fn) (tstep X f (fnw f (mk 2 it.2.2.1 it.2.2.2.1) fn) (mk 2 it.2.2.1 it.2.2.2.1) (h, [], E)) = _
        rw [ts_nil2 (by rw [w1]; decide)]
        have ef : fnw f (mk 2 it.2.2.1 it.2.2.2.1) fn = 200 * f + it.2.2.1 := by unfold fnw; rw [w1, w2, if_pos (by decide), Int.toNat_natCast]
        rw [ef, List.append_assoc]
        refine (k2 ([mk 5 0 0] ++ V)).trans ?_
        show trun X f V (fnw f (mk 5 0 0) (200 * f + it.2.2.1)) (tstep X f (fnw f (mk 5 0 0) (200 * f + it.2.2.1)) (mk 5 0 0) (h1', [], E1)) = _
        have ef5 : fnw f (mk 5 0 0) (200 * f + it.2.2.1) = 200 * f + it.2.2.1 := by unfold fnw; rw [w5, if_neg (by decide)]
        rw [ts_nil2 (by rw [w5]; decide), ef5]
      have len : it.2.2.2.2.2.length = 1 + W1.length + 1 := by rw [o1, List.length_cons, List.length_append, List.length_singleton]; omega
      rw [List.length_nil] at k4
      refine ih (c + it.2.2.2.2.2.length) hi hi2 _ G2 h1' E1 r' (200 * f + it.2.2.1) R h3 g5 hm2 (by rw [len]; rw [len] at hWb; exact hWb) u2 hS2 hT2 (k3.mo (fun z hz => hz) (fun s hs => ?_) (fun m hm => hm)) (by omega) ht ?_
      · rw [len, show c + (1 + W1.length + 1) = c + 1 + W1.length + 1 by omega] at hs
        exact hs.mo
      · intro G' h' E' r'' hS' hfr' hT' hJ' tr' hE'
        refine K G' h' E' r'' hS' hfr' hT' ?_ ((trE _).trans tr') ?_
        · rw [← Nat.add_assoc]
          exact hJ'.mo (fun z hz => hz) (fun s hs => hs) (fun m hm => ⟨by omega, hm.2⟩)
        · rw [sm_app, o1, sm_cons, sm_app]
          omega
    · have hk1 : it.2.1 = 1 ∧ it.2.2.2.2.2 = [mk 1 it.2.2.1 0] := by
        rcases h2 with h2 | h2
        · exact ⟨h2.1, h2.2.2.2⟩
        · exact absurd h2.2.1 e2
      have w1 := wo_mk (o := 1) (t := it.2.2.1) (e := 0) (by decide)
      rw [hfr.nd 227 (by decide) (by decide)]
      have len : it.2.2.2.2.2.length = 1 := by rw [hk1.2]; rfl
      have sb : sm bx it.2.2.2.2.2 = 0 := by rw [hk1.2, sm_cons, bx_0 (by rw [w1]; decide)]; rfl
      refine ih (c + it.2.2.2.2.2.length) hi hi2 _ G h E r fn R h3 g5 hm2 hWb hfr hS hT (hJ.mo (fun z hz => hz) (fun s hs => ?_) (fun m hm => by show lo ≤ m; omega)) (by omega) ht ?_
      · rw [len] at hs
        exact hs.mo
      · intro G' h' E' r'' hS' hfr' hT' hJ' tr' hE'
        refine K G' h' E' r'' hS' hfr' hT' ?_ ?_ ?_
        · rw [← Nat.add_assoc]
          exact hJ'.mo (fun z hz => hz) (fun s hs => hs) (fun m hm => ⟨by omega, hm.2⟩)
        · rw [hk1.2]
          show trun X f (wrdO I) (fnw f (mk 1 it.2.2.1 0) fn) (tstep X f (fnw f (mk 1 it.2.2.1 0) fn) (mk 1 it.2.2.1 0) (h, [], E)) = _
          have ef : fnw f (mk 1 it.2.2.1 0) fn = fn := by unfold fnw; rw [w1, if_neg (by decide)]
          rw [ts_nil2 (by rw [w1]; decide), ef]
          exact tr'
        · rw [sm_app, sb]
          omega
end Mc1
