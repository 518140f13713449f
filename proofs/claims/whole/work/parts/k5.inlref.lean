/-! AN INLINING, OF THE REFERENCE: orders against words; the LET of a token -/
/-- nothing but an order was laid -/
def LSw (F G : MF) : Prop := (∀ c, c ≠ 201 → c ≠ 251 → c ≠ 252 → G c = F c) ∧ ∀ j, j ≠ 71 → j ≠ 73 → G 201 j = F 201 j
theorem LSq.w {F G : MF} {st Od : List Int} (h : LSq F G st Od) : LSw F G := ⟨h.1, h.2.1⟩
/-- the order of a function stands, with its words -/
def OrF (F : MF) (X : Nat → List Int) (f : Nat) (L : List Nat) (it : IT) (c hi : Nat) (W1 : List Int) : Prop := FO F X f it hi L W1 ∧ OMh F F (ks X f) it.1 (s1 it) [] L W1 [] ∧ FnR X f c (c + it.2.2.2.2.2.length) ∧ Wat X f c it.2.2.2.2.2 ∧ (∀ j, j ≤ it.2.2.2.1 → kn (ks X f) (it.2.2.1 + 2 * j) = 0) ∧ it.2.2.1 < 256
section Mk5
variable {F G : MF} {X : Nat → List Int} {K W : List Int} {f t e i j k c n v vf : Nat} {L : List Nat} {s : SS} {ns ns' : List (Nat × Int)}
theorem om_kind {kd o : Nat} {P : Int → Prop} (hk : (kd = 5 ∧ o = 7) ∨ (kd = 6 ∧ o = 8)) : ∀ (W : List Int) (s : SS) (ns : List (Nat × Int)) (L : List Nat) (ns' : List (Nat × Int)), OM F K vf s ns L W ns' → ((∃ n ∈ L, F 221 n = (kd : Int) ∧ P (F 222 n)) ↔ ∃ w ∈ W, wo w = (o : Int) ∧ P (wt w)) := by
  intro W
  induction W with
  | nil =>
    rintro s ns L ns' ⟨rfl, -⟩
    exact ⟨fun ⟨n, h, _⟩ => absurd h (List.not_mem_nil), fun ⟨n, h, _⟩ => absurd h (List.not_mem_nil)⟩
  | cons w W ih =>
    rintro s ns L ns' ⟨L1, L2, n1, rfl, h2, h3⟩
    have one : (∃ n ∈ L1, F 221 n = (kd : Int) ∧ P (F 222 n)) ↔ wo w = (o : Int) ∧ P (wt w) := by
      have sing : ∀ (n a : Nat), L1 = [n] → F 221 n = (a : Int) → a ≠ kd → wo w ≠ (o : Int) → ((∃ n ∈ L1, F 221 n = (kd : Int) ∧ P (F 222 n)) ↔ wo w = (o : Int) ∧ P (wt w)) := fun n a e1 e2 e3 e4 =>
        ⟨fun ⟨m, h, h5, _⟩ => by rw [e1] at h; rw [List.mem_singleton.mp h, e2] at h5; omega, fun h => absurd h.1 e4⟩
      have emp : L1 = [] → wo w ≠ (o : Int) → ((∃ n ∈ L1, F 221 n = (kd : Int) ∧ P (F 222 n)) ↔ wo w = (o : Int) ∧ P (wt w)) := fun e1 e4 =>
        ⟨fun ⟨m, h, _⟩ => by rw [e1] at h; exact absurd h (List.not_mem_nil), fun h => absurd h.1 e4⟩
      rcases h2 with ⟨p, n, e1, e2, e3, -⟩ | ⟨p, n, u, x, r, e1, e2, -, e3, -⟩ | ⟨p, n, u, v, x, y, r, e1, e2, -, e3, -⟩ | ⟨a, b, u, x, r, e1, e2, -⟩ | ⟨p, n, as, r, e1, e2, -, e3, -⟩ | ⟨o', kd', p, b, n, u, x, e0, e1, e2, -, e3, e4, -, -, -, -, e5⟩ | ⟨a, n, e1, e2, e3, -⟩ | ⟨o', a, b, e0, e1, e2, -⟩ | ⟨a, n, e1, e2, e3, -⟩
      · exact sing n 13 e2 e3 (by omega) (by rw [e1, wo_mk (by decide)]; omega)
      · exact sing n 16 e2 e3 (by omega) (by rw [e1, wo_mk (by decide)]; omega)
      · exact sing n 30 e2 e3 (by omega) (by rw [e1, wo_mk (by decide)]; omega)
      · exact emp e2 (by rw [e1, wo_mk (by decide)]; omega)
      · exact sing n 14 e2 e3 (by omega) (by rw [e1, wo_mk (by decide)]; omega)
      · have ew : wo w = (o' : Int) := by rw [e1, wo_mk (by omega)]
        by_cases c : o' = o
        · have hp := e5 (by omega)
          have et : wt w = (p : Int) := by rw [e1, wt_mk (by omega) hp]
          rw [e2, et]
          exact ⟨fun ⟨m, h, _, h6⟩ => ⟨by omega, by rw [List.mem_singleton.mp h, e4] at h6; exact h6⟩, fun h => ⟨n, List.mem_singleton.mpr rfl, by rw [e3]; omega, by rw [e4]; exact h.2⟩⟩
        · exact sing n kd' e2 e3 (by omega) (by omega)
      · exact sing n 12 e2 e3 (by omega) (by rw [e1, wo_mk (by decide)]; omega)
      · exact emp e2 (by rw [e1, wo_mk (by omega)]; omega)
      · exact sing n 3 e2 e3 (by omega) (by rw [e1, wo_mk (by decide)]; omega)
    have ih2 := ih _ _ _ _ h3
    constructor
    · rintro ⟨n, h, h5⟩
      rcases List.mem_append.mp h with h | h
      · exact ⟨w, List.mem_cons_self, one.mp ⟨n, h, h5⟩⟩
      · obtain ⟨w', a, b⟩ := ih2.mp ⟨n, h, h5⟩
        exact ⟨w', List.mem_cons_of_mem _ a, b⟩
    · rintro ⟨w', h, h5⟩
      rcases List.mem_cons.mp h with h | h
      · rw [h] at h5
        obtain ⟨n, a, b⟩ := one.mpr h5
        exact ⟨n, List.mem_append_left _ a, b⟩
      · obtain ⟨n, a, b⟩ := ih2.mpr ⟨w', h, h5⟩
        exact ⟨n, List.mem_append_right _ a, b⟩
/-- the leaves of an order, and their homes -/
theorem omh_leaf : ∀ (W : List Int) (s : SS) (ns : List (Nat × Int)) (L : List Nat) (ns' : List (Nat × Int)), OMh F G K vf s ns L W ns' → (∀ n ∈ L, F 221 n = 13 → ∃ q p : Nat, q < W.length ∧ gx W q = mk 14 p 0 ∧ F 222 n = (p : Int) ∧ (p < 256 → kn K p = 0 → SE F vf (G 254 n) (sfo s (W.take q)))) ∧
    ∀ q, q < W.length → wo (gx W q) = 14 → ∃ n ∈ L, ∃ p : Nat, F 221 n = 13 ∧ gx W q = mk 14 p 0 ∧ F 222 n = (p : Int) ∧ (p < 256 → kn K p = 0 → SE F vf (G 254 n) (sfo s (W.take q))) := by
  intro W
  induction W with
  | nil =>
    rintro s ns L ns' ⟨rfl, -⟩
    exact ⟨fun n h => absurd h (List.not_mem_nil), fun q h => absurd h (Nat.not_lt_zero q)⟩
  | cons w W ih =>
    rintro s ns L ns' ⟨L1, L2, n1, rfl, h2, h4, h3⟩
    obtain ⟨i1, i2⟩ := ih _ _ _ _ h3
    have home : ∀ n ∈ L1, ∀ p : Nat, F 221 n = 13 → F 222 n = (p : Int) → p < 256 → kn K p = 0 → SE F vf (G 254 n) s := fun n hn p a b c d => h4 n hn a (by omega) (by rw [b, Int.toNat_natCast]; exact d)
    have one : (∀ n ∈ L1, F 221 n = 13 → ∃ p : Nat, w = mk 14 p 0 ∧ F 222 n = (p : Int)) ∧ (wo w = 14 → ∃ n ∈ L1, ∃ p : Nat, F 221 n = 13 ∧ w = mk 14 p 0 ∧ F 222 n = (p : Int)) := by
      have sing : ∀ (n a : Nat), L1 = [n] → F 221 n = (a : Int) → a ≠ 13 → wo w ≠ 14 → ((∀ n ∈ L1, F 221 n = 13 → ∃ p : Nat, w = mk 14 p 0 ∧ F 222 n = (p : Int)) ∧ (wo w = 14 → ∃ n ∈ L1, ∃ p : Nat, F 221 n = 13 ∧ w = mk 14 p 0 ∧ F 222 n = (p : Int))) := fun n a e1 e2 e3 e4 =>
        ⟨fun m h h5 => by rw [e1] at h; rw [List.mem_singleton.mp h, e2] at h5; omega, fun h => absurd h e4⟩
      have emp : L1 = [] → wo w ≠ 14 → ((∀ n ∈ L1, F 221 n = 13 → ∃ p : Nat, w = mk 14 p 0 ∧ F 222 n = (p : Int)) ∧ (wo w = 14 → ∃ n ∈ L1, ∃ p : Nat, F 221 n = 13 ∧ w = mk 14 p 0 ∧ F 222 n = (p : Int))) := fun e1 e4 =>
        ⟨fun m h => by rw [e1] at h; exact absurd h (List.not_mem_nil), fun h => absurd h e4⟩
      rcases h2 with ⟨p, n, e1, e2, e3, e4, -⟩ | ⟨p, n, u, x, r, e1, e2, -, e3, -⟩ | ⟨p, n, u, v, x, y, r, e1, e2, -, e3, -⟩ | ⟨a, b, u, x, r, e1, e2, -⟩ | ⟨p, n, as, r, e1, e2, -, e3, -⟩ | ⟨o', kd', p, b, n, u, x, e0, e1, e2, -, e3, e4, -, -, -, -, e5⟩ | ⟨a, n, e1, e2, e3, -⟩ | ⟨o', a, b, e0, e1, e2, -⟩ | ⟨a, n, e1, e2, e3, -⟩
      · refine ⟨fun m h _ => ⟨p, e1, ?_⟩, fun _ => ⟨n, by rw [e2]; exact List.mem_singleton.mpr rfl, p, e3, e1, e4⟩⟩
        rw [e2] at h
        rw [List.mem_singleton.mp h]
        exact e4
      · exact sing n 16 e2 e3 (by decide) (by rw [e1, wo_mk (by decide)]; decide)
      · exact sing n 30 e2 e3 (by decide) (by rw [e1, wo_mk (by decide)]; decide)
      · exact emp e2 (by rw [e1, wo_mk (by decide)]; decide)
      · exact sing n 14 e2 e3 (by decide) (by rw [e1, wo_mk (by decide)]; decide)
      · exact sing n kd' e2 e3 (by omega) (by rw [e1, wo_mk (by omega)]; omega)
      · exact sing n 12 e2 e3 (by decide) (by rw [e1, wo_mk (by decide)]; decide)
      · exact emp e2 (by rw [e1, wo_mk (by omega)]; omega)
      · exact sing n 3 e2 e3 (by decide) (by rw [e1, wo_mk (by decide)]; decide)
    refine ⟨fun n hn h13 => ?_, fun q hq h14 => ?_⟩
    · rcases List.mem_append.mp hn with h | h
      · obtain ⟨p, a, b⟩ := one.1 n h h13
        exact ⟨0, p, Nat.succ_pos _, a, b, fun c d => home n h p h13 b c d⟩
      · obtain ⟨q, p, a, b, d, e⟩ := i1 n h h13
        exact ⟨q + 1, p, by rw [List.length_cons]; omega, b, d, e⟩
    · cases q with
      | zero =>
        obtain ⟨n, a, p, b, d, e⟩ := one.2 h14
        exact ⟨n, List.mem_append_left _ a, p, b, d, e, fun x y => home n a p b e x y⟩
      | succ q =>
        obtain ⟨n, a, p, b⟩ := i2 q (by rw [List.length_cons] at hq; omega) h14
        exact ⟨n, List.mem_append_right _ a, p, b⟩
/-- ahead of the next function there are USE items alone -/
theorem wrd_use {top : Nat} {z : Int} : ∀ (I : List IT) (x : Int) (c lo : Nat), ItC F K top x c lo I z → ∀ q, q < (wrdO I).length → (∀ q', q' ≤ q → wo (gx (wrdO I) q') ≠ 2) → wo (gx (wrdO I) q) = 1
  | [], x, c, lo, _, q, hq, _ => absurd hq (Nat.not_lt_zero q)
  | it :: I, x, c, lo, ⟨_, hi, ⟨_, h2, _⟩, h3⟩, q, hq, hn => by
    rcases h2 with ⟨-, -, -, k4⟩ | ⟨-, -, -, -, -, -, -, W1, -, k4⟩
    · have e : wrdO (it :: I) = mk 1 it.2.2.1 0 :: wrdO I := by show it.2.2.2.2.2 ++ wrdO I = _; rw [k4]; rfl
      rw [e] at hq hn ⊢
      cases q with
      | zero => exact wo_mk (by decide)
      | succ q => exact wrd_use I _ _ _ h3 q (by rw [List.length_cons] at hq; omega) (fun q' h => hn (q' + 1) (by omega))
    · have e : gx (wrdO (it :: I)) 0 = mk 2 it.2.2.1 it.2.2.2.1 := by show gx (it.2.2.2.2.2 ++ wrdO I) 0 = _; rw [k4]; rfl
      have := hn 0 (Nat.zero_le _)
      rw [e, wo_mk (by decide)] at this
      exact absurd rfl this
theorem OMh.om : ∀ (W : List Int) (s : SS) (ns : List (Nat × Int)) (L : List Nat) (ns' : List (Nat × Int)), OMh F G K vf s ns L W ns' → OM F K vf s ns L W ns'
  | [], _, _, _, _, h => h
  | w :: W, s, ns, L, ns', ⟨L1, L2, n1, h1, h2, _, h4⟩ => ⟨L1, L2, n1, h1, h2, OMh.om W _ _ _ _ h4⟩
theorem om_no2 : ∀ (W : List Int) (s : SS) (ns : List (Nat × Int)) (L : List Nat) (ns' : List (Nat × Int)), OM F K vf s ns L W ns' → ∀ w ∈ W, wo w ≠ 2
  | [], _, _, _, _, _, w, hw => absurd hw (List.not_mem_nil)
  | v :: W, s, ns, L, ns', ⟨L1, L2, n1, _, h2, h4⟩, w, hw => by
    rcases List.mem_cons.mp hw with h | h
    · rw [h]; exact (sstep_fp h2).1
    · exact om_no2 W _ _ _ _ h4 w h
/-- the words of an item that is a function -/
theorem it_fnr {top : Nat} {it : IT} {I : List IT} {hi : Nat} {x z : Int} {lo : Nat} {W1 : List Int} (hO : FO F X f it hi L W1) (h3 : ItC F (ks X f) top x (c + it.2.2.2.2.2.length) lo I z) (hW : Wat X f c (wrdO (it :: I))) (hl : c + (wrdO (it :: I)).length = (Cw X f).length) : FnR X f c (c + it.2.2.2.2.2.length) := by
  obtain ⟨o1, o2, -⟩ := hO
  obtain ⟨hWa, hWb⟩ := Wat.app (V := it.2.2.2.2.2) (W := wrdO I) hW
  have hlen : it.2.2.2.2.2.length = W1.length + 2 := by rw [o1, List.length_cons, List.length_append, List.length_singleton]
  have hll : c + it.2.2.2.2.2.length + (wrdO I).length = (Cw X f).length := by
    rw [← hl]
    show _ = c + (it.2.2.2.2.2 ++ wrdO I).length
    rw [List.length_append]
    omega
  have ga : ∀ q, q < it.2.2.2.2.2.length → gx (Cw X f) (c + q) = gx it.2.2.2.2.2 q := hWa.2
  refine ⟨by omega, by omega, ?_, fun q h1 h2 => ?_, fun q h1 h2 h4 => ?_⟩
  · have := ga 0 (by omega)
    rw [Nat.add_zero] at this
    rw [this, o1]
    exact wo_mk (by decide)
  · obtain ⟨q', rfl⟩ : ∃ q', q = c + (q' + 1) := ⟨q - c - 1, by omega⟩
    rw [ga (q' + 1) (by omega), o1]
    show wo (gx (W1 ++ [mk 5 0 0]) q') ≠ 2
    rw [gx_app]
    by_cases e : q' < W1.length
    · rw [if_pos e]
      exact om_no2 _ _ _ _ _ o2 _ (gx_mem e)
    · rw [if_neg e, show q' - W1.length = 0 by omega]
      show wo (mk 5 0 0) ≠ 2
      rw [wo_mk (by decide)]
      decide
  · obtain ⟨q', rfl⟩ : ∃ q', q = c + it.2.2.2.2.2.length + q' := ⟨q - (c + it.2.2.2.2.2.length), by omega⟩
    rw [hWb.2 q' (by omega)]
    refine wrd_use I _ _ _ h3 q' (by omega) (fun q2 h5 => ?_)
    rw [← hWb.2 q2 (by omega)]
    exact h4 _ (by omega) (by omega)
/-- the LET that declares a token: its node, the order of its function being laid -/
theorem s_317 {nn : Nat → Nat} (hS : St F) (hD : LKd F X nn) (hf : f < 3) (ht : t < 200) :
    C_317 ((200 * f + t : Nat) : Int) F (fun r G => (r = -1 ∧ lte (Cw X f) t = -1 ∧ LSw F G) ∨ (r ≠ -1 ∧ lte (Cw X f) t ≠ -1 ∧ ∃ (L : List Nat) (it : IT) (c hi : Nat) (W1 : List Int) (iL : Nat), LSq F G [] (ndc L) ∧ OrF F X f L it c hi W1 ∧ c ≤ iL ∧ iL < c + it.2.2.2.2.2.length ∧ wo (gx (Cw X f) iL) = 7 ∧ wt (gx (Cw X f) iL) = (t : Int))) m_no := by
  have hX := hD.1.hX
  obtain ⟨I, hI, hH⟩ := hD.2.2 f hf
  obtain ⟨i1, i2, i3, i4⟩ := hI
  have lk := toks_len hX hf
  obtain ⟨Q, hQ⟩ : ∃ Q : Int → MF → Prop, Q = fun r G => (r = -1 ∧ lte (Cw X f) t = -1 ∧ LSw F G) ∨ (r ≠ -1 ∧ lte (Cw X f) t ≠ -1 ∧ ∃ (L : List Nat) (it : IT) (c hi : Nat) (W1 : List Int) (iL : Nat), LSq F G [] (ndc L) ∧ OrF F X f L it c hi W1 ∧ c ≤ iL ∧ iL < c + it.2.2.2.2.2.length ∧ wo (gx (Cw X f) iL) = 7 ∧ wt (gx (Cw X f) iL) = (t : Int)) := ⟨_, rfl⟩
  rw [← hQ]
  have we0 : ∀ w ∈ Cw X f, 0 ≤ we w := fun w hw => by
    obtain ⟨j, hj, rfl⟩ := List.mem_iff_getElem.mp hw
    have := (Fw_len hX hf).2.2.2 j hj
    have e : gx (Cw X f) j = (Cw X f)[j]'hj := by
      unfold gx
      rw [List.getD_eq_getElem?_getD, List.getElem?_eq_getElem hj]
      rfl
    rw [e] at this
    unfold we
    omega
  have key : ∀ (I : List IT) (c lo lo2 : Nat) (x : Int) (G : MF), ItC F (ks X f) (nn (f + 1)) x c lo I (-1) → HIt F F X f (nn (f + 1)) lo2 I → (∀ e ∈ fnsO F c I, e ∈ Fw X f) → Wat X f c (wrdO I) → c + (wrdO I).length = (Cw X f).length → St G → (LSw F G) → (∀ j, j < c → ¬ (wo (gx (Cw X f) j) = 7 ∧ wt (gx (Cw X f) j) = (t : Int))) →
      L_317_13 ((200 * f + t : Nat) : Int) x G Q m_no := by
    intro I
    induction I with
    | nil =>
      intro c lo lo2 x G hx _ _ _ hl hSG hLS hz
      refine b_317_13 hSG ⟨fun _ => ?_, fun h => absurd hx.1 h⟩
      rw [hQ]
      refine Or.inl ⟨rfl, ?_, hLS⟩
      by_cases h : lte (Cw X f) t = -1
      · exact h
      · obtain ⟨j, j1, j2, j3, -⟩ := lte_some _ _ h
        change c + 0 = _ at hl
        exact absurd ⟨j2, j3⟩ (hz j (by omega))
    | cons it I ih =>
      rintro c lo lo2 x G ⟨rfl, hi, hP, h3⟩ hHI hm hW hl hSG hLS hz
      obtain ⟨hi2, q1, q2, q3, q4, q5⟩ := hHI
      have h1 := hP.1
      have hm2 : ∀ e ∈ fnsO F (c + it.2.2.2.2.2.length) I, e ∈ Fw X f := fun e he => hm e (List.mem_append_right _ he)
      obtain ⟨hWa, hWb⟩ := Wat.app (V := it.2.2.2.2.2) (W := wrdO I) hW
      have hll : c + it.2.2.2.2.2.length + (wrdO I).length = (Cw X f).length := by
        rw [← hl]
        show _ = c + (it.2.2.2.2.2 ++ wrdO I).length
        rw [List.length_append]
        omega
      have nd : ∀ {H : MF}, LSw F H → ∀ c, 221 ≤ c → c ≤ 229 → H c = F c := fun {H} k c a b => k.1 c (by omega) (by omega) (by omega)
      have l0 := hLS
      have n0 := nd l0
      refine b_317_13 hSG ⟨fun h => by omega, fun _ => ?_⟩
      rw [Int.toNat_natCast, n0 221 (by decide) (by decide), n0 227 (by decide) (by decide), n0 225 (by decide) (by decide), n0 224 (by decide) (by decide)]
      refine ⟨by omega, fun e2 => ?_, fun e2 => ⟨by omega, ?_⟩⟩
      · have hk2 : it.2.1 = 2 := by
          rcases hP.2.1 with h2 | h2
          · rw [h2.2.1] at e2; exact absurd e2 (by decide)
          · exact h2.1
        obtain ⟨L, W1, hO, hOM⟩ := q3 hk2
        have hit := it_fn (F := F) hX hf (it :: I) c hm it (List.mem_cons_self) hk2
        have hO' := hO
        obtain ⟨o1, o2, o3, o4, o5, o6, o7, o8, o9, o10, o11⟩ := hO'
        have hR := it_fnr hO h3 hW hl
        rw [o8, Int.toNat_natCast]
        refine ⟨by omega, by omega, ?_⟩
        refine CaV.on (o11 G hSG n0) ?_
        rintro G5 hS5 ⟨l5, -⟩
        have l5' : LSq F G5 [] (ndc L) := ⟨fun c a b d => by rw [l5.1 c a b d, l0.1 c a b d], fun j a b => by rw [l5.2.1 j a b, l0.2 j a b], l5.2.2⟩
        have n5 := nd l5'.w
        obtain ⟨l6, l7⟩ := l5'.2.2.2
        rw [ndc_len] at l6
        have lp : ∀ (d k : Nat), k + d = L.length → (∀ q, q < k → ∀ n, L[q]? = some n → ¬ (F 221 n = 5 ∧ F 222 n = (t : Int))) → L_317_46 ((200 * f + t : Nat) : Int) (it.1 : Int) (k : Int) G5 Q m_no := by
          intro d
          induction d with
          | zero =>
            intro k hk hz2
            refine b_317_46 hS5 ?_
            rw [l6, Int.toNat_natCast, n5 227 (by decide) (by decide)]
            refine ⟨fun h => by omega, fun _ => ⟨by omega, ?_⟩⟩
            refine ih _ _ _ _ G5 h3 q5 hm2 hWb hll hS5 l5'.w (fun j hj hj2 => ?_)
            by_cases c1 : j < c
            · exact hz j c1 hj2
            · have ej : gx (Cw X f) j = gx it.2.2.2.2.2 (j - c) := by
                have := hWa.2 (j - c) (by omega)
                rw [show c + (j - c) = j by omega] at this
                exact this
              have hno : ¬ ∃ n ∈ L, F 221 n = ((5 : Nat) : Int) ∧ F 222 n = (t : Int) := fun ⟨n, a, b⟩ => by
                obtain ⟨q, hq, rfl⟩ := List.mem_iff_getElem.mp a
                exact hz2 q (by omega) _ (List.getElem?_eq_getElem hq) b
              refine hno ((om_kind (P := fun y => y = (t : Int)) (Or.inl ⟨rfl, rfl⟩) _ _ _ _ _ o2).mpr ⟨gx it.2.2.2.2.2 (j - c), ?_, by rw [← ej]; exact hj2.1, by rw [← ej]; exact hj2.2⟩)
              rw [ej, o1] at hj2
              rw [o1]
              have hlen : it.2.2.2.2.2.length = W1.length + 2 := by rw [o1, List.length_cons, List.length_append, List.length_singleton]
              cases hq : j - c with
              | zero =>
                rw [hq] at hj2
                have : wo (mk 2 it.2.2.1 it.2.2.2.1) = 7 := hj2.1
                rw [wo_mk (by decide)] at this
                exact absurd this (by decide)
              | succ q =>
                rw [hq] at hj2
                have e9 : gx (mk 2 it.2.2.1 it.2.2.2.1 :: (W1 ++ [mk 5 0 0])) (q + 1) = gx (W1 ++ [mk 5 0 0]) q := rfl
                rw [e9] at hj2 ⊢
                rw [gx_app] at hj2 ⊢
                by_cases c2 : q < W1.length
                · rw [if_pos c2]
                  exact gx_mem c2
                · rw [if_neg c2, show q - W1.length = 0 by omega] at hj2
                  have : wo (mk 5 0 0) = 7 := hj2.1
                  rw [wo_mk (by decide)] at this
                  exact absurd this (by decide)
          | succ d ih2 =>
            intro k hk hz2
            have hk3 : k < L.length := by omega
            have e251 : G5 251 k = ((L[k]'hk3 : Nat) : Int) := by rw [l7 k (by rw [ndc_len]; exact hk3), gx_ndc hk3]
            have hn := (o3 _ (List.getElem_mem hk3)).2
            have nx : ¬ (F 221 (L[k]'hk3) = 5 ∧ F 222 (L[k]'hk3) = (t : Int)) → L_317_46 ((200 * f + t : Nat) : Int) (it.1 : Int) ((k : Int) + 1) G5 Q m_no := fun h => by
              have := ih2 (k + 1) (by omega) (fun q hq n hn2 => by
                by_cases c3 : q = k
                · rw [c3, List.getElem?_eq_getElem hk3] at hn2
                  injection hn2 with hn3
                  rw [← hn3]
                  exact h
                · exact hz2 q (by omega) n hn2)
              rw [show ((k + 1 : Nat) : Int) = (k : Int) + 1 by omega] at this
              exact this
            have emod : ((200 * f + t : Nat) : Int) % 200 = (t : Int) := by omega
            refine b_317_46 hS5 ?_
            rw [l6, Int.toNat_natCast, e251, Int.toNat_natCast, n5 221 (by decide) (by decide), n5 222 (by decide) (by decide), emod]
            refine ⟨fun _ => ⟨by omega, by omega, fun h5 => ⟨by omega, by omega, by omega, fun h222 => ⟨by omega, ?_⟩, fun h222 => ⟨by omega, nx (fun h => h222 h.2)⟩⟩, fun h5 => ⟨by omega, nx (fun h => h5 h.1)⟩⟩, fun h => by omega⟩
            rw [hQ]
            obtain ⟨w, w1, w2, w3⟩ := (om_kind (P := fun y => y = (t : Int)) (Or.inl ⟨rfl, rfl⟩) _ _ _ _ _ o2).mp ⟨_, List.getElem_mem hk3, h5, h222⟩
            obtain ⟨q, hq, rfl⟩ := List.mem_iff_getElem.mp w1
            have eq1 : gx (Cw X f) (c + (q + 1)) = W1[q]'hq := by
              rw [hWa.2 (q + 1) (by rw [o1, List.length_cons, List.length_append]; omega), o1]
              show gx (W1 ++ [mk 5 0 0]) q = _
              rw [gx_app, if_pos hq]
              unfold gx
              rw [List.getD_eq_getElem?_getD, List.getElem?_eq_getElem hq]
              rfl
            have hlen : it.2.2.2.2.2.length = W1.length + 2 := by rw [o1, List.length_cons, List.length_append, List.length_singleton]
            have hcq : c + (q + 1) < (Cw X f).length := by omega
            refine Or.inr ⟨by omega, lte_mem _ t (c + (q + 1)) hcq (by rw [eq1]; exact w2) (by rw [eq1]; exact w3) we0, L, it, c, hi2, W1, c + (q + 1), l5', ⟨hO, hOM, hR, hWa, hit.2, hit.1⟩, by omega, by omega, by rw [eq1]; exact w2, by rw [eq1]; exact w3⟩
        exact lp L.length 0 (by omega) (fun q hq => absurd hq (Nat.not_lt_zero q))
      · have hk2 : it.2.2.2.2.2 = [mk 1 it.2.2.1 0] := by
          rcases hP.2.1 with h2 | h2
          · exact h2.2.2.2
          · exact absurd h2.2.1 e2
        refine ih _ _ _ _ G h3 q5 hm2 hWb hll hSG l0 (fun j hj hj2 => ?_)
        rw [hk2, List.length_singleton] at hj
        by_cases c1 : j < c
        · exact hz j c1 hj2
        · obtain rfl : j = c := by omega
          have := hWa.2 0 (by rw [hk2]; exact Nat.succ_pos _)
          rw [Nat.add_zero, hk2] at this
          rw [this] at hj2
          have h7 : wo (mk 1 it.2.2.1 0) = 7 := hj2.1
          rw [wo_mk (by decide)] at h7
          exact absurd h7 (by decide)
  refine c_317 hS ?_
  rw [show ((200 * f + t : Nat) : Int) / 200 = (f : Int) by omega, Int.toNat_natCast]
  refine ⟨by omega, by omega, ?_⟩
  refine key I 0 _ _ _ F i1 hH (fun e he => by rw [i2] at he; exact he) ⟨by rw [i4]; omega, fun j _ => by rw [i4, Nat.zero_add]⟩ (by rw [i4]; omega) hS ⟨fun _ _ _ _ => rfl, fun _ _ _ => rfl⟩ (fun j hj => absurd hj (Nat.not_lt_zero j))
end Mk5
