/-! BINDING OF THE REFERENCE: functions, files; look, to the end -/
section M9w
variable {F G : MF} {X : Nat → List Int} {f k vf lo hi c : Nat} {R : MF → Prop} {B B' : Nat → Int}
/-- the NAMEs of a function and of its parameters -/
theorem l_260 {it : IT} (hp : ∀ i, i ≤ it.2.2.2.1 → it.2.2.1 + 2 * i < (toks X f).length) (hf : f < 3) (hk : (toks X f).length ≤ 192) (hv : it.1 + it.2.2.2.1 < 1600) (hP : PM F it.1 it.2.2.1 it.2.2.2.1) : ∀ (d i : Nat) (G : MF), i + d = it.2.2.2.1 → St G → (∀ c, c ≠ 253 → G c = F c) → (∀ id : Nat, G 253 id = if ∃ q, q < i + 1 ∧ id = 200 * f + it.2.2.1 + 2 * q then (id : Int) else F 253 id) →
    (∀ G', St G' → (∀ c, c ≠ 253 → G' c = F c) → (∀ id : Nat, G' 253 id = if ∃ q, q < it.2.2.2.1 + 1 ∧ id = 200 * f + it.2.2.1 + 2 * q then (id : Int) else F 253 id) → L_260_36 (f : Int) (it.1 : Int) (-1) G' R m_no) →
    L_260_36 (f : Int) (it.1 : Int) (if i < it.2.2.2.1 then ((it.1 + 1 + i : Nat) : Int) else -1) G R m_no := by
  intro d
  induction d with
  | zero =>
    intro i G hi hS hz hb hR
    rw [if_neg (by omega)]
    exact hR G hS hz (by rw [show it.2.2.2.1 = i by omega]; exact hb)
  | succ d ih =>
    intro i G hi hS hz hb hR
    obtain ⟨q1, q2, q3⟩ := hP.2 i (by omega)
    have ht := hp (i + 1) (by omega)
    rw [if_pos (by omega)]
    refine b_260_36 hS ⟨fun h => by omega, fun _ => ?_⟩
    rw [Int.toNat_natCast, hz 222 (by decide), hz 227 (by decide), q2, q3, show 200 * (f : Int) + ((it.2.2.1 + 2 + 2 * i : Nat) : Int) = ((200 * f + it.2.2.1 + 2 * (i + 1) : Nat) : Int) by omega, Int.toNat_natCast]
    refine ⟨by omega, by omega, by omega, by omega, by omega, by omega, by omega, by omega, ?_⟩
    have := ih (i + 1) (m_up G 253 (200 * f + it.2.2.1 + 2 * (i + 1)) ((200 * f + it.2.2.1 + 2 * (i + 1) : Nat) : Int)) (by omega) (hS.arr kd_253 (by decide)) (fun c hc => by rw [up_row hc]; exact hz c hc) (fun id => ?_) hR
    · rw [show it.1 + 1 + (i + 1) = it.1 + 2 + i by omega] at this
      exact this
    · by_cases e : id = 200 * f + it.2.2.1 + 2 * (i + 1)
      · rw [e, u_eq, if_pos ⟨i + 1, by omega, rfl⟩]
      · rw [u_ne (Or.inr e), hb id]
        by_cases h : ∃ q, q < i + 1 ∧ id = 200 * f + it.2.2.1 + 2 * q
        · obtain ⟨q, h1, h2⟩ := h
          rw [if_pos ⟨q, h1, h2⟩, if_pos ⟨q, by omega, h2⟩]
        · rw [if_neg h, if_neg]
          rintro ⟨q, h1, h2⟩
          exact h ⟨q, by omega, h2⟩
theorem Bvs.cg {B2 : Nat → Int} (h : Bvs X f lo hi B B') (e : ∀ id, id < 600 → B2 id = B' id) : Bvs X f lo hi B B2 := fun id hid => by
  rw [e id hid]
  exact h id hid
theorem Bvs.cg' {B2 : Nat → Int} (h : Bvs X f lo hi B B') (e : ∀ id, id < 600 → B2 id = B id) : Bvs X f lo hi B2 B' := fun id hid => by
  rw [e id hid]
  exact h id hid
theorem Bvs.no {i : Nat} (h : ∀ t, ¬ bset X f (gx (Cw X f) i) t) : Bvs X f i (i + 1) B B := Bvs.one (fun id _ => (bwd_0 (h _)).symm)
theorem s_260 {nn : Nat → Nat} {it : IT} {L : List Nat} {W1 : List Int} (hS : St G) (hR : RA F X nn) (hN : NB F G) (hf : f < 3) (hO : FO F X f it hi L W1) (hW : Wat X f c it.2.2.2.2.2) (h222 : F 222 it.1 = (it.2.2.1 : Int)) (hp0 : it.2.2.1 < 256) (hp : ∀ j, j ≤ it.2.2.2.1 → kn (ks X f) (it.2.2.1 + 2 * j) = 0) :
    C_260 (f : Int) (it.1 : Int) G (fun G' => NB F G' ∧ Bvs X f c (c + it.2.2.2.2.2.length) (G 253) (G' 253) ∧ (∀ m, m ∉ L → G' 254 m = G 254 m) ∧ OMh F G' (ks X f) it.1 (s1 it) [] L W1 []) m_no := by
  have hX := hR.hX
  have lk := toks_len hX hf
  obtain ⟨o1, o2, o3, o4, o5, o6, o7, o8, o9, o10, o11⟩ := hO
  rw [o1] at hW ⊢
  obtain ⟨w0, hW1⟩ := hW.cons
  obtain ⟨hWa, hWb⟩ := hW1.app
  have hl0 := hW.1
  rw [List.length_cons, List.length_append, List.length_singleton] at hl0
  rw [List.length_cons, List.length_append, List.length_singleton]
  have htk : ∀ j, j ≤ it.2.2.2.1 → it.2.2.1 + 2 * j < (toks X f).length := fun j hj => kn_tok (by rw [hp j hj]; decide)
  have ht0 := htk it.2.2.2.1 (Nat.le_refl _)
  have es1 : sat (Cw X f) (c + 1) = s1 it := by
    show sstep (sat (Cw X f) c) (gx (Cw X f) c) = _
    rw [w0]
    unfold sstep
    rw [wo_mk (by decide), wt_mk (by decide) hp0, we_mk (by decide) hp0, if_pos (by decide)]
  have nd := hN.nd
  refine c_260 hS ?_
  rw [Int.toNat_natCast, nd 222 (by decide) (by decide), nd 224 (by decide) (by decide), h222, o6.1, show 200 * (f : Int) + (it.2.2.1 : Int) = ((200 * f + it.2.2.1 : Nat) : Int) by omega, Int.toNat_natCast]
  refine ⟨by omega, by omega, by omega, by omega, by omega, by omega, by omega, by omega, ?_⟩
  have hPG : PM G it.1 it.2.2.1 it.2.2.2.1 := o6.cong (by rw [nd 224 (by decide) (by decide)]) (fun cc i x y _ _ => by rw [nd cc (by omega) (by omega)])
  have par := l_260 (F := G) (f := f) (X := X) (R := fun G' => NB F G' ∧ Bvs X f c (c + (W1.length + 1 + 1)) (G 253) (G' 253) ∧ (∀ m, m ∉ L → G' 254 m = G 254 m) ∧ OMh F G' (ks X f) it.1 (s1 it) [] L W1 []) htk hf lk o7 hPG it.2.2.2.1 0 (m_up G 253 (200 * f + it.2.2.1) ((200 * f + it.2.2.1 : Nat) : Int)) (by omega) (hS.arr kd_253 (by decide)) (fun cc hc => up_row hc) (fun id => by
    by_cases e : id = 200 * f + it.2.2.1
    · rw [e, u_eq, if_pos ⟨0, by omega, by omega⟩]
    · rw [u_ne (Or.inr e), if_neg]
      rintro ⟨q, h1, h2⟩
      exact e (by omega)) ?_
  · by_cases e : it.2.2.2.1 = 0
    · rw [if_pos e]
      rw [if_neg (by omega)] at par
      exact par
    · rw [if_neg e]
      rw [if_pos (by omega)] at par
      exact par
  intro G2 hS2 z2 b2
  have n2 : ∀ cc, 221 ≤ cc → cc ≤ 229 → G2 cc = F cc := fun cc x y => by rw [z2 cc (by omega), nd cc x y]
  refine b_260_36 hS2 ⟨fun _ => ?_, fun h => absurd rfl h⟩
  rw [Int.toNat_natCast, n2 225 (by decide) (by decide), o8, Int.toNat_natCast, n2 224 (by decide) (by decide)]
  refine ⟨by omega, by omega, CaV.on (o11 G2 hS2 n2) ?_⟩
  rintro G3 hS3 ⟨⟨l1, l2, -, l4, l5⟩, -⟩
  have z3 : ∀ cc, cc ≠ 201 → ¬ (251 ≤ cc ∧ cc ≤ 253) → G3 cc = G cc := fun cc x y => by rw [l1 cc x (by omega) (by omega), z2 cc (by omega)]
  have hN3 : NB F G3 := ⟨fun cc x y => by rw [z3 cc x (by omega)]; exact hN.1 cc x y, fun j x y => by rw [l2 j x y, z2 201 (by decide)]; exact hN.2 j x y⟩
  have n3 := hN3.nd
  have e253 : G3 253 = G2 253 := l1 253 (by decide) (by decide) (by decide)
  rw [l4, ndc_len]
  refine ⟨by omega, ?_⟩
  have hwok : WOk (ks X f) W1 := hWa.ok hX hf
  have main := l_105 (F := G3) (nn := nn) (vf := it.1) (p := it.2.2.1) (n := it.2.2.2.1) (R := fun G' => NB F G' ∧ Bvs X f c (c + (W1.length + 1 + 1)) (G 253) (G' 253) ∧ (∀ m, m ∉ L → G' 254 m = G 254 m) ∧ OMh F G' (ks X f) it.1 (s1 it) [] L W1 []) (hN3.ra hR) hf o7 (o6.cong (by rw [n3 224 (by decide) (by decide)]) (fun cc i x y _ _ => by rw [n3 cc (by omega) (by omega)])) (fun i hi => by have := htk (i + 1) (by omega); omega) W1 (s1 it) [] L [] (OM.cong n3 _ _ _ _ _ o2) hwok (fun t ht => absurd ht (List.not_mem_nil)) rfl 0 (-1) G3 hS3 (fun _ _ _ => rfl) (fun i m hm => by
    rw [Nat.zero_add]
    have hi : i < L.length := (List.getElem?_eq_some_iff.mp hm).1
    rw [l5 i (by rw [ndc_len]; exact hi)]
    unfold gx ndc
    rw [List.getD_eq_getElem?_getD, List.getElem?_map, hm]
    rfl) (by omega) o4 (fun m hm => by have := o3 m hm; omega) (fun h => absurd rfl h) ?_
  · rw [Nat.zero_add] at main
    exact main
  intro G4 st4 hS4 z4 b4 h4 oh4 _
  refine b_260_105 hS4 ⟨fun _ => ?_, fun h => absurd (by decide) h⟩
  refine ⟨⟨fun cc x y => by rw [z4 cc (by omega) (by omega)]; exact hN3.1 cc x y, fun j x y => by rw [z4 201 (by decide) (by decide)]; exact hN3.2 j x y⟩, ?_, fun m hm => ?_, ?_⟩
  · -- what is bound
    have v1 : Bvs X f c (c + 1) (G 253) (G2 253) := Bvs.one (fun id hid => by
      rw [b2 id, w0]
      have w1 := wo_mk (o := 2) (t := it.2.2.1) (e := it.2.2.2.1) (by decide)
      have w2 := wt_mk (o := 2) (t := it.2.2.1) (e := it.2.2.2.1) (by decide) hp0
      have w3 := we_mk (o := 2) (t := it.2.2.1) (e := it.2.2.2.1) (by decide) hp0
      by_cases e : ∃ q, q < it.2.2.2.1 + 1 ∧ id = 200 * f + it.2.2.1 + 2 * q
      · rw [if_pos e, bwd_1]
        · unfold bval
          rw [w1, if_neg (by decide), if_neg (by decide)]
        · obtain ⟨q, q1, q2⟩ := e
          exact ⟨Or.inl ⟨by rw [w1]; rfl, by rw [w2]; omega, by rw [w2, w3]; omega, by rw [w2]; omega⟩, fun h => by rw [w1] at h; omega⟩
      · rw [if_neg e, bwd_0]
        rintro ⟨h | h, -⟩
        · rw [w2, w3] at h
          exact e ⟨(id - (200 * f + it.2.2.1)) / 2, by omega, by omega⟩
        · rw [w1] at h; omega)
    have v2 : Bvs X f (c + 1) (c + 1 + W1.length) (G2 253) (G4 253) := by
      have := (bbk_vs (B := G3 253) hX hf W1 (s1 it) (c + 1) hWa es1).cg b4
      rw [e253] at this
      exact this
    have v3 : Bvs X f (c + 1 + W1.length) (c + 1 + W1.length + 1) (G4 253) (G4 253) := Bvs.no (fun t => by
      rw [(hWb.cons).1]
      exact bset_0 (by decide) ⟨by decide, by decide, by decide, by decide, fun h => absurd h (by decide)⟩)
    have v12 := Bvs.tr hX hf (Nat.le_succ c) (by omega) (by omega) v1 v2
    have := Bvs.tr hX hf (by omega) (Nat.le_succ _) (by omega) v12 v3
    rw [show c + (W1.length + 1 + 1) = (c + 1 + W1.length).succ by omega]
    exact this
  · rw [h4 m hm, l1 254 (by decide) (by decide) (by decide), z2 254 (by decide)]
  · exact OMh.base (fun cc x y => (n3 cc x y).symm) _ _ _ _ _ oh4
/-- the homes of leaves, of all functions of a file -/
def HIt (F G : MF) (X : Nat → List Int) (f top : Nat) : Nat → List IT → Prop
  | _, [] => True
  | lo, it :: r => ∃ hi, lo ≤ it.1 ∧ it.1 < hi ∧ (it.2.1 = 2 → ∃ (L : List Nat) (W1 : List Int), FO F X f it hi L W1 ∧ OMh F G (ks X f) it.1 (s1 it) [] L W1 []) ∧ hi ≤ top ∧ HIt F G X f top hi r
theorem HIt.cong {G' : MF} {top : Nat} : ∀ (I : List IT) (lo : Nat), HIt F G X f top lo I → (∀ m, lo ≤ m → m < top → G' 254 m = G 254 m) → HIt F G' X f top lo I
  | [], _, _, _ => trivial
  | it :: r, lo, ⟨hi, h1, h2, h3, h5, h4⟩, hc => ⟨hi, h1, h2, fun e => by
    obtain ⟨L, W1, k1, k2⟩ := h3 e
    exact ⟨L, W1, k1, OMh.cong _ _ _ _ _ k2 (fun n hn => by have := k1.2.2.1 n hn; exact hc n (by omega) (by omega))⟩, h5, HIt.cong r hi h4 (fun m hm hm2 => hc m (by omega) hm2)⟩
theorem l_261i {nn : Nat → Nat} (hR : RA F X nn) (hf : f < 3) (top : Nat) : ∀ (I : List IT) (c lo : Nat) (x : Int) (G : MF), ItC F (ks X f) top x c lo I (-1) → (∀ e ∈ fnsO F c I, e ∈ Fw X f) → NB F G → St G → Wat X f c (wrdO I) →
    (∀ G', St G' → NB F G' → Bvs X f c (c + (wrdO I).length) (G 253) (G' 253) → (∀ m, m < lo ∨ top ≤ m → G' 254 m = G 254 m) → HIt F G' X f top lo I → L_261_24 ((f : Int) + 1) G' R m_no) → L_261_36 (f : Int) x G R m_no := by
  have hX := hR.hX
  intro I
  induction I with
  | nil =>
    rintro c lo x G ⟨rfl, hlo⟩ hm hN hS hW hR2
    exact b_261_36 hS ⟨fun _ => ⟨by omega, hR2 G hS hN Bvs.rf (fun _ _ => rfl) trivial⟩, fun h => absurd rfl h⟩
  | cons it I ih =>
    rintro c lo x G ⟨rfl, hi, hP, h3⟩ hm hN hS hW hR2
    have hm2 : ∀ e ∈ fnsO F (c + it.2.2.2.2.2.length) I, e ∈ Fw X f := fun e he => hm e (List.mem_append_right _ he)
    obtain ⟨hWa, hWb⟩ := Wat.app (V := it.2.2.2.2.2) (W := wrdO I) hW
    have hl0 : c + (it.2.2.2.2.2 ++ wrdO I).length ≤ (Cw X f).length := hW.1
    rw [List.length_append] at hl0
    have hP' := hP
    obtain ⟨h1, h2, p1, p2, p3⟩ := hP'
    have htop : hi ≤ top := by
      have : ∀ (I : List IT) (x z : Int) (c lo : Nat), ItC F (ks X f) top x c lo I z → lo ≤ top := by
        intro I
        induction I with
        | nil => intro x z c lo h; exact h.2
        | cons a I ih2 => rintro x z c lo ⟨-, hi2, k1, k2⟩; have := ih2 _ _ _ _ k2; have := k1.2.2; omega
      exact this _ _ _ _ _ h3
    have len : (wrdO (it :: I)).length = it.2.2.2.2.2.length + (wrdO I).length := by show (it.2.2.2.2.2 ++ wrdO I).length = _; rw [List.length_append]
    refine b_261_36 hS ⟨fun h => by omega, fun _ => ?_⟩
    rw [Int.toNat_natCast, hN.nd 221 (by decide) (by decide)]
    refine ⟨by omega, fun e2 => ?_, fun e2 => ⟨by omega, ?_⟩⟩
    · have hk2 : it.2.1 = 2 ∧ F 222 it.1 = (it.2.2.1 : Int) := by
        rcases h2 with h2 | h2
        · rw [h2.2.1] at e2; exact absurd e2 (by decide)
        · exact ⟨h2.1, h2.2.2.1⟩
      have ht := it_fn (F := F) hX hf (it :: I) c hm it (List.mem_cons_self) hk2.1
      obtain ⟨L, W1, hO⟩ := FO_of hP hk2.1
      refine CaV.on (s_260 hS hR hN hf hO hWa hk2.2 ht.1 ht.2) ?_
      rintro G1 hS1 ⟨n1, v1, z1, oh1⟩
      rw [n1.nd 227 (by decide) (by decide)]
      refine ⟨by omega, ih _ _ _ G1 h3 hm2 n1 hS1 hWb ?_⟩
      intro G2 hS2 n2 v2 z2 ho2
      refine hR2 G2 hS2 n2 ?_ (fun m hm3 => ?_) ⟨hi, p1, p2, fun _ => ⟨L, W1, hO, OMh.cong _ _ _ _ _ oh1 (fun n hn => z2 n (Or.inl (hO.2.2.1 n hn).2))⟩, htop, ho2⟩
      · rw [len, ← Nat.add_assoc]
        exact Bvs.tr hX hf (Nat.le_add_right _ _) (Nat.le_add_right _ _) (by omega) v1 v2
      · rw [z2 m (by omega), z1 m (fun h => by have := hO.2.2.1 m h; omega)]
    · have hk1 : it.2.1 = 1 ∧ it.2.2.2.2.2 = [mk 1 it.2.2.1 0] := by
        rcases h2 with h2 | h2
        · exact ⟨h2.1, h2.2.2.2⟩
        · exact absurd h2.2.1 e2
      rw [hN.nd 227 (by decide) (by decide)]
      refine ih _ _ _ G h3 hm2 hN hS hWb ?_
      intro G2 hS2 n2 v2 z2 ho2
      refine hR2 G2 hS2 n2 ?_ (fun m hm3 => z2 m (by omega)) ⟨hi, p1, p2, fun e => by omega, htop, ho2⟩
      rw [len, ← Nat.add_assoc]
      refine Bvs.tr hX hf (Nat.le_add_right _ _) (Nat.le_add_right _ _) (by omega) ?_ v2
      rw [hk1.2] at hWa ⊢
      exact Bvs.no (fun t => by
        rw [(hWa.cons).1]
        exact bset_0 (by decide) ⟨by decide, by decide, by decide, by decide, fun h => absurd h (by decide)⟩)
/-- all is looked at: the files are read, and names are bound -/
def LKd (F : MF) (X : Nat → List Int) (nn : Nat → Nat) : Prop := RA F X nn ∧ (∀ id, id < 600 → F 253 id = bnd X id) ∧ ∀ f, f < 3 → ∃ I, ITs F X f (nn f) (nn (f + 1)) I ∧ HIt F F X f (nn (f + 1)) (nn f) I
end M9w
section M9w2
variable {F G : MF} {X : Nat → List Int} {f k vf lo hi c top : Nat} {nn : Nat → Nat}
theorem FO.cong {it : IT} {L : List Nat} {W1 : List Int} (h : ∀ c, 221 ≤ c → c ≤ 229 → G c = F c) (k : FO F X f it hi L W1) : FO G X f it hi L W1 := by
  obtain ⟨o1, o2, o3, o4, o5, o6, o7, o8, o9, o10, o11⟩ := k
  refine ⟨o1, OM.cong h _ _ _ _ _ o2, o3, o4, o5, o6.cong (by rw [h 224 (by decide) (by decide)]) (fun cc i x y _ _ => by rw [h cc (by omega) (by omega)]), o7, by rw [h 225 (by decide) (by decide)]; exact o8, o9, o10, fun B hS hz => ?_⟩
  rw [h 224 (by decide) (by decide)]
  exact CaV.on (o11 B hS (fun cc x y => by rw [hz cc x y, h cc x y])) (fun G' _ hL => ⟨hL.1, hz⟩)
theorem HIt.base {H : MF} (h : ∀ c, 221 ≤ c → c ≤ 229 → G c = F c) : ∀ (I : List IT) (lo : Nat), HIt F H X f top lo I → HIt G H X f top lo I
  | [], _, _ => trivial
  | it :: r, lo, ⟨hi, h1, h2, h3, h5, h4⟩ => ⟨hi, h1, h2, fun e => by
    obtain ⟨L, W1, k1, k2⟩ := h3 e
    exact ⟨L, W1, FO.cong h k1, OMh.base h _ _ _ _ _ k2⟩, h5, HIt.base h r hi h4⟩
theorem ItP.cong {K : List Int} {it : IT} (h : ∀ c, 221 ≤ c → c ≤ 229 → G c = F c) (k : ItP F K c lo hi it) : ItP G K c lo hi it := by
  obtain ⟨h1, h2, h3⟩ := k
  refine ⟨h1, ?_, h3⟩
  rw [h 221 (by decide) (by decide), h 222 (by decide) (by decide), h 225 (by decide) (by decide), h 226 (by decide) (by decide), h 229 (by decide) (by decide)]
  rcases h2 with h2 | ⟨k1, k2, k3, k4, k5, k6, k7, W1, k8, k9⟩
  · exact Or.inl h2
  · exact Or.inr ⟨k1, k2, k3, k4.cong (by rw [h 224 (by decide) (by decide)]) (fun cc i x y _ _ => by rw [h cc (by omega) (by omega)]), k5, k6, k7, W1, k8.cong Sme.rng Sme.cong (fun cc i x y _ _ _ => by rw [h cc x y]), k9⟩
theorem ItC.cong {K : List Int} (h : ∀ c, 221 ≤ c → c ≤ 229 → G c = F c) : ∀ (I : List IT) (x z : Int) (c lo : Nat), ItC F K top x c lo I z → ItC G K top x c lo I z
  | [], x, z, c, lo, k => k
  | it :: r, x, z, c, lo, ⟨k1, hi, k2, k3⟩ => ⟨k1, hi, ItP.cong h k2, by rw [h 227 (by decide) (by decide)]; exact ItC.cong h r _ z _ hi k3⟩
theorem fnsO.cong (h : G 228 = F 228) : ∀ (I : List IT) (c : Nat), fnsO G c I = fnsO F c I
  | [], c => rfl
  | it :: r, c => by
    show (if it.2.1 = 2 then [(_, _, _, G 228 _)] else []) ++ fnsO G _ r = (if it.2.1 = 2 then [(_, _, _, F 228 _)] else []) ++ fnsO F _ r
    rw [fnsO.cong h r, h]
theorem ITs.cong {a b : Nat} {I : List IT} (h : ∀ c, 221 ≤ c → c ≤ 229 → G c = F c) (h2 : G 245 f = F 245 f) (k : ITs F X f a b I) : ITs G X f a b I := by
  obtain ⟨k1, k2, k3⟩ := k
  exact ⟨by rw [h2]; exact ItC.cong h _ _ _ _ _ k1, by rw [fnsO.cong (h 228 (by decide) (by decide))]; exact k2, k3⟩
theorem l_261 (hR : RA F X nn) (hf : f < 3) (hS : St G) (hN : NB F G) {R : MF → Prop} (hR2 : ∀ G', St G' → NB F G' → (∀ id, id < 600 → G' 253 id = bat X f (G 253) (Cw X f).length id) → (∀ m, m < nn f ∨ nn (f + 1) ≤ m → G' 254 m = G 254 m) → (∃ I, ITs F X f (nn f) (nn (f + 1)) I ∧ HIt F G' X f (nn (f + 1)) (nn f) I) → L_261_24 ((f : Int) + 1) G' R m_no) : L_261_24 (f : Int) G R m_no := by
  have hX := hR.hX
  obtain ⟨I, i1, i2, i3, i4⟩ := hR.its hf
  refine b_261_24 hS ⟨fun _ => ⟨by omega, ?_⟩, fun h => absurd (by omega) h⟩
  rw [Int.toNat_natCast, hN.1 245 (by decide) (by decide)]
  refine l_261i hR hf (nn (f + 1)) I 0 (nn f) _ G i1 (fun e he => by rw [i2] at he; exact he) hN hS ⟨by rw [i4]; omega, fun j hj => by rw [i4, Nat.zero_add]⟩ ?_
  intro G' hS' hN' hv hz hh
  refine hR2 G' hS' hN' ?_ hz ⟨I, ⟨i1, i2, i3, i4⟩, hh⟩
  rw [Nat.zero_add, i4] at hv
  exact Bvs.eq hX hf hv (bat_vs hX hf _ (Nat.le_refl _))
theorem bat_cg {B B2 : Nat → Int} (hX : ∀ r, r < 24 → Rok (X r)) (hf : f < 3) (e : ∀ id, id < 600 → B2 id = B id) : ∀ id, id < 600 → bat X f B2 (Cw X f).length id = bat X f B (Cw X f).length id :=
  Bvs.eq hX hf (bat_vs hX hf _ (Nat.le_refl _)) ((bat_vs hX hf _ (Nat.le_refl _)).cg' e)
theorem s_261 (hS : St F) (hR : RA F X nn) : C_261 F (fun F' => LKd F' X nn ∧ NB F F') m_no := by
  have hX := hR.hX
  have init : ∀ (d i : Nat) (G : MF), i + d = 600 → St G → (∀ c, c ≠ 253 → G c = F c) → (∀ j, j < i → G 253 j = -1) → (∀ G', St G' → (∀ c, c ≠ 253 → G' c = F c) → (∀ j, j < 600 → G' 253 j = -1) → L_261_24 0 G' (fun F' => LKd F' X nn ∧ NB F F') m_no) → L_261_2 (i : Int) G (fun F' => LKd F' X nn ∧ NB F F') m_no := by
    intro d
    induction d with
    | zero =>
      intro i G hi hS hz hb hR
      exact b_261_2 hS ⟨fun h => by omega, fun _ => hR G hS hz (fun j hj => hb j (by omega))⟩
    | succ d ih =>
      intro i G hi hS hz hb hR
      refine b_261_2 hS ⟨fun _ => ⟨by omega, by omega, ?_⟩, fun h => absurd (by omega) h⟩
      rw [Int.toNat_natCast, show (i : Int) + 1 = ((i + 1 : Nat) : Int) by omega]
      refine ih (i + 1) _ (by omega) (hS.arr kd_253 (by decide)) (fun c hc => by rw [up_row hc]; exact hz c hc) (fun j hj => ?_) hR
      by_cases e : j = i
      · rw [e, u_eq]
      · rw [u_ne (Or.inr e)]; exact hb j (by omega)
  refine c_261 hS (init 600 0 F (by omega) hS (fun _ _ => rfl) (fun j h => absurd h (Nat.not_lt_zero j)) ?_)
  intro G0 hS0 z0 b0
  have hN0 : NB F G0 := ⟨fun c x y => z0 c (by omega), fun j _ _ => by rw [z0 201 (by decide)]⟩
  have nl := hR.2.2.2.2.1
  refine l_261 (f := 0) hR (by decide) hS0 hN0 ?_
  intro G1 hS1 hN1 b1 z1 h1
  refine l_261 (f := 1) hR (by decide) hS1 hN1 ?_
  intro G2 hS2 hN2 b2 z2 h2
  refine l_261 (f := 2) hR (by decide) hS2 hN2 ?_
  intro G3 hS3 hN3 b3 z3 h3
  refine b_261_24 hS3 ⟨fun h => absurd h (by decide), fun _ => ⟨⟨hN3.ra hR, fun id hid => ?_, fun f hf => ?_⟩, hN3⟩⟩
  · have c1 : ∀ id, id < 600 → G1 253 id = bat X 0 (fun _ => -1) (Cw X 0).length id := fun id hid => by rw [b1 id hid]; exact bat_cg hX (by decide) b0 id hid
    have c2 : ∀ id, id < 600 → G2 253 id = bat X 1 (bat X 0 (fun _ => -1) (Cw X 0).length) (Cw X 1).length id := fun id hid => by rw [b2 id hid]; exact bat_cg hX (by decide) c1 id hid
    rw [b3 id hid]
    exact bat_cg hX (by decide) c2 id hid
  · have e0 := (nl 0 (by decide)).1
    have e1 := (nl 1 (by decide)).1
    have e2 := (nl 2 (by decide)).1
    have fin : ∀ {I : List IT} {G' : MF}, ITs F X f (nn f) (nn (f + 1)) I ∧ HIt F G' X f (nn (f + 1)) (nn f) I → (∀ m, nn f ≤ m → m < nn (f + 1) → G3 254 m = G' 254 m) → ∃ I, ITs G3 X f (nn f) (nn (f + 1)) I ∧ HIt G3 G3 X f (nn (f + 1)) (nn f) I := fun {I G'} h hz => ⟨I, ITs.cong hN3.nd (by rw [hN3.1 245 (by decide) (by decide)]) h.1, HIt.base hN3.nd _ _ (HIt.cong _ _ h.2 hz)⟩
    match f, hf with
    | 0, _ =>
      obtain ⟨I, h⟩ := h1
      exact fin h (fun m a b => by
        have b2 : m < nn 1 := b
        have e12 : nn 1 ≤ nn 2 := e1
        rw [z3 m (Or.inl (Nat.lt_of_lt_of_le b2 e12)), z2 m (Or.inl b2)])
    | 1, _ =>
      obtain ⟨I, h⟩ := h2
      exact fin h (fun m a b => z3 m (Or.inl b))
    | 2, _ =>
      obtain ⟨I, h⟩ := h3
      exact fin h (fun m a b => rfl)
theorem s_262 (hS : St F) (hX : TxM F X) : C_262 F (fun F' => LKr F F' ∧ ∃ nn, LKd F' X nn) m_no := by
  refine c_262 hS ?_
  refine CaV.on (s_248 hS hX) ?_
  rintro F1 hS1 ⟨k1, nn, k2⟩
  refine CaV.on (s_261 hS1 k2) ?_
  rintro F2 hS2 ⟨k3, k4⟩
  exact ⟨k1.tr ⟨fun j _ b c => k4.2 j b c, fun c hc => k4.1 c (fun e => hc (Or.inl e)) (fun e => hc (by omega))⟩, nn, k3⟩
end M9w2
