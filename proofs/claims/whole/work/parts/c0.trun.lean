/-! TYPES: the words of a function, of a file, of all files, on both sides -/
def Ah (X : Nat → List Int) (f c : Nat) : Nat → Prop := fun s => s < 600 ∧ bnd X s = -1 ∧ (f < s / 200 ∨ (s / 200 = f ∧ ∃ j, c ≤ j ∧ j < (Cw X f).length ∧ bset X f (gx (Cw X f) j) ((s : Int) - 200 * (f : Int))))
/-- what typing leaves as it is, the order of nodes too -/
def frU (F F' : MF) : Prop := (∀ c, c ≠ 201 → c ≠ 251 → c ≠ 252 → ¬ (255 ≤ c ∧ c ≤ 257) → F' c = F c) ∧ ∀ j, j ≠ 71 → j ≠ 73 → j ≠ 78 → F' 201 j = F 201 j
section Mc0
variable {F G : MF} {X : Nat → List Int} {f c fn vf tf hi g : Nat} {w : Int}
theorem frU.rf : frU F F := ⟨fun _ _ _ _ _ => rfl, fun _ _ _ _ => rfl⟩
theorem frU.tr {F1 F2 F3 : MF} (h : frU F1 F2) (k : frU F2 F3) : frU F1 F3 := ⟨fun c x y z u => (k.1 c x y z u).trans (h.1 c x y z u), fun j x y z => (k.2 j x y z).trans (h.2 j x y z)⟩
theorem frT.u {F F' : MF} (h : frT F F') : frU F F' := ⟨fun c x _ _ u => h.1 c (by unfold TyRP; omega), fun j _ _ z => h.2 j z⟩
theorem LSo.u {B F G : MF} {st Od : List Int} (h : LSo B F G st Od) : frU B G := ⟨fun c x y z _ => h.1.1 c x y z, fun j x y _ => h.1.2.1 j x y⟩
theorem frU.nd (h : frU F G) : ∀ c, 221 ≤ c → c ≤ 229 → G c = F c := fun c x y => h.1 c (by omega) (by omega) (by omega) (by omega)
theorem BaseR.u (hB : BaseR F X) (h : frU F G) : BaseR G X := by
  obtain ⟨b1, b2, b3, b4⟩ := hB
  refine ⟨b1, fun id hid => by rw [h.1 253 (by decide) (by decide) (by decide) (by decide)]; exact b2 id hid, fun g hg => ?_, fun g t hg ht => by rw [h.1 213 (by decide) (by decide) (by decide) (by decide)]; exact b4 g t hg ht⟩
  obtain ⟨x, y, I, i1, i2⟩ := b3 g hg
  refine ⟨x, y, I, i1.cong h.nd (by rw [h.1 245 (by decide) (by decide) (by decide) (by decide)]), fun it hi h2 => ?_⟩
  obtain ⟨p1, p2⟩ := i2 it hi h2
  refine ⟨?_, p2⟩
  unfold PM at p1 ⊢
  rw [h.nd 224 (by decide) (by decide), h.nd 221 (by decide) (by decide), h.nd 222 (by decide) (by decide), h.nd 227 (by decide) (by decide)]
  exact p1
theorem TyR.cong {q : TR} (hT : TyR F q) (h1 : ∀ c, 255 ≤ c → c ≤ 257 → G c = F c) (h2 : G 201 78 = F 201 78) : TyR G q := by
  obtain ⟨a1, a2, a3, a4⟩ := hT
  exact ⟨a1.cong (h1 256 (by decide) (by decide)), fun s hs h => by rw [h1 255 (by decide) (by decide)]; exact a2 s hs h, by rw [h2]; exact a3, by rw [h1 257 (by decide) (by decide)]; exact a4⟩
theorem LSo.ty {B F G : MF} {st Od : List Int} {q : TR} (h : LSo B F G st Od) (hT : TyR B q) : TyR G q := hT.cong (fun c x y => h.1.1 c (by omega) (by omega) (by omega)) (h.1.2.1 78 (by decide) (by decide))
theorem Ah.mo {s : Nat} (h : Ah X f (c + 1) s) : Ah X f c s := by
  obtain ⟨h1, h2, h3 | ⟨h3, j, h4, h5, h6⟩⟩ := h
  · exact ⟨h1, h2, Or.inl h3⟩
  · exact ⟨h1, h2, Or.inr ⟨h3, j, by omega, h5, h6⟩⟩
theorem Ah.no {t : Nat} (hX : ∀ r, r < 24 → Rok (X r)) (hf : f < 3) (hc : c < (Cw X f).length) (hb : bset X f (gx (Cw X f) c) (t : Int)) : ¬ Ah X f (c + 1) (200 * f + t) := by
  obtain ⟨m, m1, m2, -⟩ := bset_tok hX hf hc hb
  have := toks_len hX hf
  rintro ⟨h1, h2, h3 | ⟨h3, j, h4, h5, h6⟩⟩
  · omega
  · rw [show ((200 * f + t : Nat) : Int) - 200 * (f : Int) = (t : Int) by omega] at h6
    have := Cw_uniq hX hf hc h5 hb h6
    omega
theorem Ah.yes {t : Nat} (hX : ∀ r, r < 24 → Rok (X r)) (hf : f < 3) (hc : c < (Cw X f).length) (hb : bset X f (gx (Cw X f) c) (t : Int)) (h0 : bnd X (200 * f + t) = -1) : Ah X f c (200 * f + t) := by
  obtain ⟨m, m1, m2, -⟩ := bset_tok hX hf hc hb
  have := toks_len hX hf
  exact ⟨by omega, h0, Or.inr ⟨by omega, c, Nat.le_refl _, hc, by rw [show ((200 * f + t : Nat) : Int) - 200 * (f : Int) = (t : Int) by omega]; exact hb⟩⟩
theorem twrun (hB : BaseR F X) (hf : f < 3) (hfn : Dc X fn ∧ fn = 200 * f + tf ∧ F 222 vf = (tf : Int) ∧ vf < 1600) (hhi : hi ≤ 1600) : ∀ (W : List Int) (c : Nat) (s : SS) (Z : List Z3) (L : List Nat) (ns' : List (Nat × Int)) (h : Nat → Nat) (E : List Int) (r : TR),
    OM F (ks X f) vf s (NZ Z) L W ns' → Wat X f c W → TJ X (Ah X f c) (fun m => m ∈ L ∨ hi ≤ m) Z (h, E) r → L.Nodup → (∀ m ∈ L, m < hi) → (∀ z ∈ Z, z.2.1 < 1600) → E.length + Z.length + 2 * sm bx W ≤ 1900 →
    ∃ (Z' : List Z3) (r' : TR) (h1 : Nat → Nat) (E1 : List Int), ns' = NZ Z' ∧ (∀ V, trun X f (W ++ V) fn (h, TZ f Z, E) = trun X f V fn (h1, TZ f Z', E1)) ∧ TJ X (Ah X f (c + W.length)) (fun m => hi ≤ m) Z' (h1, E1) r' ∧ E1.length + Z'.length ≤ E.length + Z.length + 2 * sm bx W ∧
      ∀ (a : Nat) (G : MF) (R : MF → Prop), St G → frT F G → TyR G r → (∀ i m : Nat, L[i]? = some m → F 251 (a + i) = (m : Int)) → F 201 71 = ((a + L.length : Nat) : Int) → a + L.length ≤ 1600 → (∀ G', St G' → frT F G' → TyR G' r' → L_273_80 (f : Int) (vf : Int) ((a + L.length : Nat) : Int) G' R m_no) → L_273_80 (f : Int) (vf : Int) (a : Int) G R m_no := by
  have hX := hB.1
  intro W
  induction W with
  | nil =>
    rintro c s Z L ns' h E r ⟨rfl, rfl⟩ hW hJ hnd hl hz hE
    refine ⟨Z, r, h, E, rfl, fun V => rfl, hJ.mo (fun z hz => hz) (fun s hs => hs) (fun m hm => Or.inr hm), Nat.le_add_right _ _, fun a G R hS hfr hT _ _ _ K => K G hS hfr hT⟩
  | cons w W ih =>
    rintro c s Z L ns' h E r ⟨L1, L2, ns1, rfl, hO, hrest⟩ hW hJ hnd hl hz hE
    obtain ⟨hw, hW2⟩ := hW.cons
    have hc : c < (Cw X f).length := by have := hW.1; rw [List.length_cons] at this; omega
    have hwc := Cw_wc hX hf hc
    rw [hw] at hwc
    obtain ⟨fp1, fp2, fp3, fp4⟩ := sstep_fp hO
    obtain ⟨nd1, nd2, nd3⟩ := List.nodup_append.mp hnd
    have hsk := hO.sk hwc
    rw [NZ_len, ← TZ_len (f := f)] at hsk
    have hlo : ∀ a ∈ TZ f Z, a.1 < 602 := fun a ha => by
      obtain ⟨z, hz1, rfl⟩ := List.mem_map.mp ha
      exact (hJ.2.2.1 z hz1).1
    have inv := tst_inv (fn := fn) (h := h) (E := E) hX hf hwc hsk hlo
    rw [TZ_len] at inv
    rw [sm_cons] at hE
    obtain ⟨H, T, E'⟩ := r
    have hN2 : ∀ m ∈ L1, (m ∈ L1 ++ L2 ∨ hi ≤ m) ∧ ¬ (m ∈ L2 ∨ hi ≤ m) ∧ m < 1600 := fun m hm => by
      have := hl m (List.mem_append_left _ hm)
      exact ⟨Or.inl (List.mem_append_left _ hm), fun e => by
        rcases e with e | e
        · exact nd3 m hm m e rfl
        · omega, by omega⟩
    obtain ⟨Z1, r1, e1, e2, e3, e4, e5, e6⟩ := tword (A' := Ah X f (c + 1)) (N' := fun m => m ∈ L2 ∨ hi ≤ m) (fn := fn) (vf := vf) hB hf hc hw hJ (fun s hs => hs.mo) (fun t ht => Ah.no hX hf hc (by rw [hw]; exact ht)) (fun t ht h0 => Ah.yes hX hf hc (by rw [hw]; exact ht) h0) (fun m hm => hm.imp (fun k => List.mem_append_right _ k) (fun k => k)) hz (by omega) hN2 hfn hO
    have efn : fnw f w fn = fn := by unfold fnw; rw [if_neg fp1]
    have tr : ∀ V, trun X f ((w :: W) ++ V) fn (h, TZ f Z, E) = trun X f (W ++ V) fn (tstep X f fn w (h, TZ f Z, E)) := fun V => by
      show trun X f (W ++ V) (fnw f w fn) (tstep X f (fnw f w fn) w (h, TZ f Z, E)) = _
      rw [efn]
    revert tr e4 e3 inv
    generalize tstep X f fn w (h, TZ f Z, E) = y
    obtain ⟨h1, st1, E1⟩ := y
    rintro ⟨-, -, i3⟩ e3 e4 tr
    change st1 = TZ f Z1 at e3
    subst e3
    change E1.length + (TZ f Z1).length ≤ _ at i3
    rw [TZ_len] at i3
    rw [e1] at hrest
    obtain ⟨Z', r', h2, E2, k1, k2, k3, k4, k5⟩ := ih (c + 1) (sstep s w) Z1 L2 ns' h1 E1 r1 hrest hW2 e4 nd2 (fun m hm => hl m (List.mem_append_right _ hm)) e2 (by omega)
    refine ⟨Z', r', h2, E2, k1, fun V => (tr V).trans (k2 V), ?_, by rw [sm_cons]; omega, fun a G R hS hfr hT hi1 h71 ha K => ?_⟩
    · rw [List.length_cons, show c + (W.length + 1) = c + 1 + W.length by omega]
      exact k3
    · cases L1 with
      | nil =>
        have := e6 rfl
        subst this
        exact k5 a G R hS hfr hT hi1 h71 ha K
      | cons n L1' =>
        cases L1' with
        | cons m L1'' =>
          rw [List.length_cons, List.length_cons] at fp4
          omega
        | nil =>
          have lL : ([n] ++ L2).length = L2.length + 1 := by rw [List.length_append, List.length_singleton]; omega
          rw [lL] at h71 ha K
          have en : F 251 a = (n : Int) := hi1 0 n rfl
          refine b_273_80 hS ?_
          rw [hfr.2 71 (by decide), h71, hfr.1 251 (by unfold TyRP; omega), Int.toNat_natCast, en]
          refine ⟨fun _ => ⟨by omega, ?_⟩, fun hh => absurd (by omega) hh⟩
          refine CaV.on (e5 n rfl G hS hfr hT) ?_
          rintro G1 hS1 ⟨t1, t2⟩
          refine ⟨by omega, ?_⟩
          rw [show (a : Int) + 1 = ((a + 1 : Nat) : Int) by omega]
          refine k5 (a + 1) G1 R hS1 t2 t1 (fun i m hm => ?_) (by rw [h71]; omega) (by omega) ?_
          · have := hi1 (i + 1) m (by rw [show [n] ++ L2 = n :: L2 from rfl, List.getElem?_cons_succ]; exact hm)
            rw [show a + 1 + i = a + (i + 1) by omega]
            exact this
          · rw [show a + 1 + L2.length = a + (L2.length + 1) by omega]
            exact K
end Mc0
