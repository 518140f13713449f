/-! PRINTING: statements, items, files, on both sides -/
/-- the words of statements, of the class -/
def PSk (K : List Int) (W ns : List Int) : Prop := ∀ (V : List Int) (p : Int), pcl K (W ++ V) p [] = pcl K V (prn p ns) []
section Mf5
variable {F F0 G H : MF} {X : Nat → List Int} {K : List Int} {v u l k f lo hi c o b : Nat} {x y z p w : Int} {T ns ms W W1 W2 V : List Int} {st : List (Int × Int)} {a : Int × Int} {R : Int → MF → Prop} {nn : Nat → Nat}
theorem pcl_s (h : wo w < 14) (h2 : wo w ≠ 2) : pcl K (w :: W) p [] = pcl K W (if opn2 (wo w) = 0 then p else prn p [opn2 (wo w)]) [] := by
  show (if 14 ≤ wo w then _ else if wo w = 2 then _ else _) = _
  rw [if_neg (by omega), if_neg h2]
theorem pcl_0 (h : wo w < 14) (h2 : wo w ≠ 2) (h0 : opn2 (wo w) = 0) : pcl K (w :: W) p [] = pcl K W p [] := by rw [pcl_s h h2, if_pos h0]
theorem pcl_1 (h : wo w < 14) (h2 : wo w ≠ 2) (h0 : opn2 (wo w) = x) (hx : x ≠ 0) : pcl K (w :: W) p [] = pcl K W (prn p [x]) [] := by rw [pcl_s h h2, h0, if_neg hx]
theorem pcl_e (h : wo w = 7 ∨ wo w = 8 ∨ wo w = 9 ∨ wo w = 10 ∨ wo w = 11) (ha : Afn a ns) : pcl K (w :: W) p [a] = pcl K W (prn (if opn2 (wo w) = 0 then p else prn p [opn2 (wo w)]) ns) [] := by
  show (if 14 ≤ wo w then _ else if wo w = 2 then _ else if _ then _ else _) = _
  rw [if_neg (by omega), if_neg (by omega), if_pos h, w64_add, ha]
theorem PSk.app (h : PSk K W1 ns) (k : PSk K W2 ms) : PSk K (W1 ++ W2) (ns ++ ms) := fun V p => by
  rw [List.append_assoc, h, k, prn_app]
theorem PSk.nil : PSk K [] [] := fun V p => rfl
theorem PSk.w0 {o t e : Nat} (ho : o = 6 ∨ o = 5) : PSk K [mk o t e] [] := fun V p => by
  show pcl K (mk o t e :: V) p [] = _
  rw [pcl_0 (by rw [wo_mk (by omega)]; omega) (by rw [wo_mk (by omega)]; omega) (by rw [wo_mk (by omega)]; rcases ho with rfl | rfl <;> decide)]
  rfl
theorem PSk.w1 {o t e : Nat} (ho : (o = 1 ∧ x = 1) ∨ (o = 3 ∧ x = 3) ∨ (o = 4 ∧ x = 4) ∨ (o = 12 ∧ x = 11) ∨ (o = 13 ∧ x = 12)) : PSk K [mk o t e] [x] := fun V p => by
  show pcl K (mk o t e :: V) p [] = _
  have ho2 : o < 256 := by omega
  refine pcl_1 (by rw [wo_mk ho2]; omega) (by rw [wo_mk ho2]; omega) ?_ (by omega)
  rw [wo_mk ho2]
  rcases ho with ⟨rfl, rfl⟩ | ⟨rfl, rfl⟩ | ⟨rfl, rfl⟩ | ⟨rfl, rfl⟩ | ⟨rfl, rfl⟩ <;> decide
/-- an expr and the word behind it -/
theorem PSk.ex {o t e : Nat} {We : List Int} (h : PXk K We ns) (ho : (o = 7 ∧ x = 5) ∨ (o = 8 ∧ x = 6) ∨ (o = 10 ∧ x = 9) ∨ (o = 11 ∧ x = 10)) : PSk K (We ++ [mk o t e]) (x :: ns) := fun V p => by
  have ho2 : o < 256 := by omega
  obtain ⟨a, h1, h2⟩ := h ([mk o t e] ++ V) p [] (drn_mk ho2 (by omega))
  rw [List.append_assoc, h2]
  show pcl K (mk o t e :: V) p [a] = _
  have hx : opn2 (wo (mk o t e)) = x := by
    rw [wo_mk ho2]
    rcases ho with ⟨rfl, rfl⟩ | ⟨rfl, rfl⟩ | ⟨rfl, rfl⟩ | ⟨rfl, rfl⟩ <;> decide
  rw [pcl_e (by rw [wo_mk ho2]; omega) h1, hx, if_neg (by omega)]
  rfl
theorem PSk.cons {w : Int} (h : PSk K [w] ns) (k : PSk K W ms) : PSk K (w :: W) (ns ++ ms) := h.app k
/-- a row of statements -/
def PSt (F0 : MF) (K : List Int) (v : Nat) (W : List Int) : Prop := ∃ ns, PSk K W ns ∧ PNc F0 v (3 * W.length) ns
theorem PS_list {P : Nat → Nat → Nat → Nat → List Int → Prop} (hP : ∀ a b c v W, P a b c v W → a ≤ v ∧ v < b) (hPX : ∀ a bb c v W, P a bb c v W → bb ≤ 1600 → Wat X f c W → PSt F0 (ks X f) v W ∧ 1 ≤ W.length) : ∀ (k lo hi c : Nat) (x y : Int) (W : List Int), SLq P F0 b k lo hi c x y W → hi ≤ 1600 → Wat X f c W → (0 < k → F0 227 y.toNat = -1 ∨ (0 ≤ F0 227 y.toNat ∧ F0 227 y.toNat < 1600)) →
    ∃ ns, PSk (ks X f) W ns ∧ PRc F0 x (if k = 0 then -1 else F0 227 y.toNat) (3 * W.length + 1) ns := by
  intro k
  induction k with
  | zero =>
    rintro lo hi c x y W ⟨h1, rfl, h3, rfl⟩ hh hW hz
    refine ⟨[], PSk.nil, fun F p T R hS hfr hP hT K1 => ?_⟩
    rw [if_pos rfl] at K1
    exact K1 F hS hfr hP
  | succ k ih =>
    rintro lo hi c x y W ⟨m, v, x', y', W1, W2, h1, rfl, h3, h4, rfl, h6⟩ hh hW hz
    have r1 := SLq.rng hP _ _ _ _ _ _ _ h1
    have r2 := hP _ _ _ _ _ h3
    obtain ⟨w1, w2⟩ := hW.app
    have hz' := hz (Nat.succ_pos k)
    rw [Int.toNat_natCast] at hz' ⊢
    obtain ⟨⟨ns, n1, n2⟩, l2⟩ := hPX _ _ _ _ _ h3 hh w2
    obtain ⟨ms, m1, m2⟩ := ih lo m c x' y' W1 h1 (by omega) w1 (fun hk => Or.inr (by rw [if_neg (by omega)] at h6; rw [h6.2]; exact ⟨by omega, by omega⟩))
    refine ⟨ms ++ ns, m1.app n1, fun F p T R hS hfr hP hT K1 => ?_⟩
    rw [if_neg (Nat.succ_ne_zero k)] at K1
    rw [List.length_append] at hT
    have last : ∀ F1 p1, St F1 → frP F0 F1 → RPr F1 p1 (T ++ rowt (v : Int)) → p1 = prn p ms → L_277_36 F1 R m_no := by
      intro F1 p1 hS1 hf1 hP1 hp1
      rw [show rowt (v : Int) = [2 * (v : Int) + 1] from if_neg (by omega)] at hP1
      refine pop_r (l := 3 * W2.length) hS1 hf1 hP1 (by omega) (by omega) hz' n2 ?_
      intro F2 hS2 hf2 hP2
      rw [hp1, ← prn_app] at hP2
      exact K1 F2 hS2 hf2 hP2
    by_cases e : k = 0
    · subst e
      obtain ⟨-, e2, -, e1⟩ := h1
      have em : RPr F (prn p ms) (T ++ rowt (v : Int)) → RPr F (prn p ms) (T ++ rowt (v : Int)) := fun h => h
      rw [if_pos rfl] at h6
      rw [h6] at hP
      rw [if_pos rfl] at m2
      refine m2 F p (T ++ rowt (v : Int)) R hS hfr ?_ ?_ ?_
      · rw [e2, show rowt (-1) = [] from rfl, List.append_nil]
        exact hP
      · rw [List.length_append, show (rowt (v : Int)).length = 1 by unfold rowt; rw [if_neg (by omega)]; rfl]
        omega
      · intro F1 hS1 hf1 hP1
        rw [show rowt (-1) = [] from rfl, List.append_nil] at hP1
        exact last F1 _ hS1 hf1 hP1 rfl
    · rw [if_neg e] at h6 m2
      rw [h6.1] at hP
      refine m2 F p T R hS hfr hP (by omega) ?_
      intro F1 hS1 hf1 hP1
      rw [h6.2] at hP1
      exact last F1 _ hS1 hf1 hP1 rfl
theorem PB_of {P : Nat → Nat → Nat → Nat → List Int → Prop} (hP : ∀ a b c v W, P a b c v W → a ≤ v ∧ v < b) (hPX : ∀ a bb c v W, P a bb c v W → bb ≤ 1600 → Wat X f c W → PSt F0 (ks X f) v W ∧ 1 ≤ W.length) (h : Bk P F0 lo hi c b W) (hh : hi ≤ 1600) (hW : Wat X f c W) : PSt F0 (ks X f) b W := by
  have gg := h.rng hP
  have ho := Bk_one hP h hh
  obtain ⟨h1, h2, k, t, e, cl, y, Ws, h3, h4, h5, h6, h7, rfl⟩ := h
  obtain ⟨w1, w2, w3, w4⟩ := wat_hd hW
  obtain ⟨w5, w6⟩ := w4.app
  obtain ⟨ns, n1, n2⟩ := PS_list hP hPX k _ _ _ _ _ _ h4 hh w5 (fun hk => Or.inl (h5 (by have := SLq.rng hP _ _ _ _ _ _ _ h4; omega)))
  have e0 : (if k = 0 then -1 else F0 227 y.toNat) = -1 := by
    by_cases e : k = 0
    · rw [if_pos e]
    · rw [if_neg e]; exact h5 (by have := SLq.rng hP _ _ _ _ _ _ _ h4; omega)
  rw [e0] at n2
  refine ⟨((3 : Nat) : Int) :: (ns ++ [((3 + 1 : Nat) : Int)]), ?_, ?_⟩
  · exact (PSk.w1 (x := 3) (o := 3) (by omega)).cons (n1.app (PSk.w1 (x := 4) (o := 4) (by omega)))
  · refine (PNc_row (by omega) h1 (by decide) rfl ho n2).le ?_
    rw [List.length_cons, List.length_append, List.length_singleton]
    omega
/-- IF -/
theorem PNc_if {b2 : Nat} {ms qs : List Int} (hv : v < 1600) (hu : u < 1600) (hb : b < 1600) (hk : F0 221 v = 10) (h4 : F0 224 v = (u : Int)) (h5 : F0 225 v = (b : Int)) (hN : PNc F0 u l ns) (hM : PNc F0 b l ms) (h6 : (F0 226 v = -1 ∧ qs = []) ∨ (F0 226 v = (b2 : Int) ∧ b2 < 1600 ∧ ∃ q2, qs = 11 :: q2 ∧ PNc F0 b2 l q2)) : PNc F0 v (l + 3) (10 :: (ns ++ (ms ++ qs))) := by
  intro F p T R hS hfr hP hT K1
  refine b_276_28 hS ?_
  rw [Int.toNat_natCast, hfr.nd 221 (by decide) (by decide), hk]
  refine ⟨by omega, fun c => absurd c (by decide), fun _ => ⟨fun c => absurd c (by decide), fun _ => ⟨fun c => absurd c (by decide), fun _ => ⟨fun c => absurd c (by decide), fun _ => ?_⟩⟩⟩⟩
  refine CaV.on (s_274 hS hP) ?_
  rintro F1 hS1 ⟨q1, q2⟩
  have hf := hfr.tr q2
  -- behind what waits
  have go : ∀ (F2 : MF) (T2 : List Int), St F2 → frP F0 F2 → RPr F2 (prn p [10]) T2 → T2.length ≤ T.length + 2 → (∀ F', St F' → frP F0 F' → RPr F' (prn p (10 :: (ns ++ ms))) T2 → L_277_36 F' R m_no) → L_276_263 (v : Int) F2 (fun F4 => L_277_36 F4 R m_no) m_no := by
    intro F2 T2 hS2 hf2 hP2 hl K2
    refine b_276_263 hS2 ?_
    rw [Int.toNat_natCast, hf2.nd 225 (by decide) (by decide), h5]
    refine ⟨by omega, by omega, CaV.on (s_275 hS2 hP2 (by omega)) ?_⟩
    rintro F3 hS3 ⟨q3, q4⟩
    have hf3 := hf2.tr q4
    rw [hf3.nd 224 (by decide) (by decide), h4]
    refine ⟨by omega, by omega, CaV.on (s_275 hS3 q3 (by rw [List.length_append, List.length_singleton]; omega)) ?_⟩
    rintro F4 hS4 ⟨q5, q6⟩
    refine pop_v hS4 (hf3.tr q6) q5 hu (by rw [List.length_append, List.length_singleton]; omega) hN ?_
    intro F5 hS5 hf5 hP5
    refine pop_v hS5 hf5 hP5 hb (by omega) hM ?_
    intro F6 hS6 hf6 hP6
    rw [← prn_app, ← prn_app] at hP6
    exact K2 F6 hS6 hf6 hP6
  refine ⟨fun c => absurd c (by decide), fun _ => ⟨fun c => absurd c (by decide), fun _ => ⟨fun c => absurd c (by decide), fun _ => ⟨fun c => absurd c (by decide), fun _ => ⟨fun _ => ⟨by omega, ?_⟩, fun c => absurd rfl c⟩⟩⟩⟩⟩
  rw [hf.nd 226 (by decide) (by decide)]
  rcases h6 with ⟨e1, e2⟩ | ⟨e1, e2, q2', e3, e4⟩
  · refine ⟨fun _ => go F1 T hS1 hf q1 (by omega) ?_, fun c => absurd e1 c⟩
    intro F2 hS2 hf2 hP2
    rw [e2, List.append_nil] at K1
    exact K1 F2 hS2 hf2 hP2
  · rw [e1]
    refine ⟨fun c => by omega, fun _ => ⟨by omega, by omega, CaV.on (s_275 hS1 q1 (by omega)) ?_⟩⟩
    rintro F2 hS2 ⟨q3, q4⟩
    refine CaV.on (s_275 (x := -12) hS2 q3 (by rw [List.length_append, List.length_singleton]; omega)) ?_
    rintro F3 hS3 ⟨q5, q6⟩
    refine go F3 _ hS3 ((hf.tr q4).tr q6) q5 (by rw [List.length_append, List.length_append, List.length_singleton, List.length_singleton]; omega) ?_
    intro F4 hS4 hf4 hP4
    refine pop_n (n := 11) hS4 hf4 hP4 (by decide) (by rw [List.length_append, List.length_singleton]; omega) ?_
    intro F5 hS5 hf5 hP5
    refine pop_v hS5 hf5 hP5 e2 (by omega) e4 ?_
    intro F6 hS6 hf6 hP6
    refine K1 F6 hS6 hf6 ?_
    rw [e3]
    rw [← prn_app, ← prn_app] at hP6
    rw [show 10 :: (ns ++ (ms ++ 11 :: q2')) = 10 :: (ns ++ ms) ++ [((11 : Nat) : Int)] ++ q2' by simp only [List.append_assoc, List.cons_append, List.nil_append]; rfl]
    rw [List.append_assoc (10 :: (ns ++ ms))]
    exact hP6
theorem PS_of (hX : ∀ r, r < 24 → Rok (X r)) (hf : f < 3) : ∀ (d lo hi c v : Nat) (W : List Int), Sm F0 (ks X f) d lo hi c v W → hi ≤ 1600 → Wat X f c W → PSt F0 (ks X f) v W ∧ 1 ≤ W.length := by
  intro d
  induction d with
  | zero => intro lo hi c v W h; exact absurd h (fun h => h)
  | succ d ih =>
    intro lo hi c v W h hh hW
    have hr := Sm.rng _ _ _ _ _ _ h
    have hok := hW.ok hX hf
    have ihX : ∀ a bb c v W, Sm F0 (ks X f) d a bb c v W → bb ≤ 1600 → Wat X f c W → PSt F0 (ks X f) v W ∧ 1 ≤ W.length := fun a bb c v W k h5 h6 => ih a bb c v W k h5 h6
    rcases h with ⟨o, kd, a, p, e, We, h1, h2, h3, h4, h5, h6, h7, rfl, hp⟩ | ⟨a, h1, h2, h3, h4, rfl⟩ | ⟨a, W', h1, h2, rfl, h222⟩ | ⟨h1, h2, a, b, m, We, W1, h3, ⟨h4, ha⟩, h5, h6, h7, h8, h9, h10, h11⟩
    · obtain ⟨u, l1, u1, fi, x1, x2, x3, ⟨dd, x4⟩, x5, x6⟩ := h7
      have ru := Rp.rng _ _ _ _ _ _ x4
      have hwe : ∀ w ∈ We, WC (ks X f) w := fun w h => (hok w (List.mem_cons_of_mem _ (List.mem_append_left _ h))).1
      have lW : (mk 6 a 0 :: (We ++ [mk o p e])).length = We.length + 2 := by rw [List.length_cons, List.length_append, List.length_singleton]
      refine ⟨?_, by omega⟩
      have simple : ∀ xx : Nat, xx = kd → ((o = 7 ∧ (xx : Int) = 5) ∨ (o = 8 ∧ (xx : Int) = 6) ∨ (o = 10 ∧ (xx : Int) = 9) ∨ (o = 11 ∧ (xx : Int) = 10)) → (xx = 16 ∨ xx = 5 ∨ xx = 6 ∨ xx = 9) → PSt F0 (ks X f) v (mk 6 a 0 :: (We ++ [mk o p e])) := by
        intro xx hxx hox hox2
        obtain ⟨ns, n1, n2⟩ := PN_of trivial _ _ _ _ _ _ x4 (by omega) hwe
        refine ⟨(xx : Int) :: ns, (PSk.w0 (Or.inl rfl)).cons (PSk.ex n1 hox), ?_⟩
        refine (PNc_one (by omega) (by omega) (by rw [hxx]; exact h2) hox2 x1 n2).le ?_
        rw [lW]
        omega
      rcases h1 with ⟨rfl, rfl⟩ | ⟨rfl, rfl⟩ | ⟨rfl, rfl⟩ | ⟨rfl, rfl⟩
      · exact simple 5 rfl (by omega) (by omega)
      · exact simple 6 rfl (by omega) (by omega)
      · -- a call alone
        obtain ⟨w1, w2, w3, w4⟩ := wat_hd hW
        obtain ⟨w5, w6, w7, w8⟩ := wat_last w4
        have l0 := (Rp_bx _ _ _ _ _ _ x4).2
        have dr := Cw_dr hX hf (c + 1 + We.length) w8 (by rw [w7, wo_mk (by decide)]; rfl)
        have e15 : ∃ (D : List Int) (p' k' : Nat), We = D ++ [mk 15 p' k'] := by
          have hne : We ≠ [] := fun e => by rw [e] at l0; exact absurd l0 (by decide)
          obtain ⟨D, w, hD⟩ : ∃ D w, We = D ++ [w] := ⟨We.dropLast, We.getLast hne, (List.dropLast_concat_getLast hne).symm⟩
          have hg : gx (Cw X f) (c + 1 + We.length - 1) = w := by
            have := w5.2 (We.length - 1) (by omega)
            rw [show c + 1 + (We.length - 1) = c + 1 + We.length - 1 by omega] at this
            rw [this, hD, gx_app, List.length_append, List.length_singleton, if_neg (by omega), Nat.add_sub_cancel, Nat.sub_self]
            rfl
          rw [hg] at dr
          obtain ⟨o', t', e', y1, y2, y3⟩ := hwe w (by rw [hD]; exact List.mem_append_right _ (List.mem_singleton.mpr rfl))
          have ho' : o' < 256 := by unfold oX at y3; omega
          have := dr.2
          rw [y1, wo_mk ho'] at this
          have o15 : o' = 15 := by omega
          exact ⟨D, t', e', by rw [hD, y1, o15]⟩
        obtain ⟨D, p', k', hD⟩ := e15
        obtain ⟨ns, n1, n2⟩ := PN_alone (v := v) x4 hD (by omega) hwe (by omega) h2 x1
        refine ⟨ns, (PSk.w0 (Or.inl rfl)).cons (fun V q => ?_), n2.le (by rw [lW]; omega)⟩
        obtain ⟨a', q1, q2⟩ := n1 ([mk 9 p e] ++ V) q (by show decide (wo (mk 9 p e) = 9) = true; rw [wo_mk (by decide)]; decide)
        rw [List.append_assoc, q2]
        show pcl _ (mk 9 p e :: V) q [a'] = _
        rw [pcl_e (by rw [wo_mk (by decide)]; decide) q1, wo_mk (by decide), if_pos (by decide)]
      · exact simple 9 rfl (by omega) (by omega)
    · refine ⟨⟨[((12 : Nat) : Int)], PSk.w1 (by omega), PNc_leaf (by omega) h1 (by decide)⟩, by rw [List.length_singleton]; omega⟩
    · obtain ⟨w1, w2, w3, w4⟩ := wat_hd hW
      obtain ⟨ns, n1, n2⟩ := PB_of (Sm.rng d) ihX h1 hh w4
      refine ⟨⟨ns, (PSk.w0 (Or.inl rfl)).cons n1, n2.le ?_⟩, ?_⟩ <;> rw [List.length_cons] <;> omega
    · obtain ⟨u, l1, u1, fi, x1, x2, x3, ⟨dd, x4⟩, x5, x6⟩ := h5
      have ru := Rp.rng _ _ _ _ _ _ x4
      have g9 := h9.rng (Sm.rng d)
      rcases h11 with ⟨k1, k2, rfl⟩ | ⟨b2, p2, W2, ⟨k1, kp2⟩, k2, k3, k4, k5, rfl⟩
      · obtain ⟨w1, w2, w3, w4⟩ := wat_hd hW
        obtain ⟨w5, w6⟩ := w4.app
        obtain ⟨w7, w8, w9, w10⟩ := wat_hd w6
        rw [show c + 1 + We.length + 1 = c + We.length + 2 by omega] at w10
        have hwe : ∀ w ∈ We, WC (ks X f) w := fun w h => (hok w (List.mem_cons_of_mem _ (List.mem_append_left _ h))).1
        obtain ⟨ns, n1, n2⟩ := PN_of trivial _ _ _ _ _ _ x4 (by omega) hwe
        obtain ⟨ms, m1, m2⟩ := PB_of (Sm.rng d) ihX h9 (by omega) w10
        have lW : (mk 6 a 0 :: (We ++ mk 11 a (c + We.length + 2 + W1.length) :: W1)).length = We.length + 2 + W1.length := by rw [List.length_cons, List.length_append, List.length_cons]; omega
        refine ⟨⟨10 :: (ns ++ (ms ++ [])), ?_, ?_⟩, by omega⟩
        · have e : We ++ mk 11 a (c + We.length + 2 + W1.length) :: W1 = (We ++ [mk 11 a (c + We.length + 2 + W1.length)]) ++ W1 := by rw [List.append_assoc]; rfl
          rw [e, List.append_nil]
          exact (PSk.w0 (Or.inl rfl)).cons ((PSk.ex n1 (x := 10) (by omega)).app m1)
        · refine (PNc_if (l := 3 * (We.length + W1.length)) (by omega) (by omega) (by omega) h1 x1 h6 (n2.le (by omega)) (m2.le (by omega)) (b2 := 0) (Or.inl ⟨k1, rfl⟩)).le ?_
          rw [lW]
          omega
      · obtain ⟨w1, w2, w3, w4⟩ := wat_hd hW
        obtain ⟨w5, w6⟩ := w4.app
        obtain ⟨w7, w8, w9, w10⟩ := wat_hd w6
        rw [show c + 1 + We.length + 1 = c + We.length + 2 by omega] at w10
        obtain ⟨w11, w12⟩ := w10.app
        obtain ⟨w13, w14, w15, w16⟩ := wat_hd w12
        rw [show c + We.length + 2 + W1.length + 1 = c + We.length + 3 + W1.length by omega] at w16
        have hwe : ∀ w ∈ We, WC (ks X f) w := fun w h => (hok w (List.mem_cons_of_mem _ (List.mem_append_left _ h))).1
        obtain ⟨ns, n1, n2⟩ := PN_of trivial _ _ _ _ _ _ x4 (by omega) hwe
        obtain ⟨ms, m1, m2⟩ := PB_of (Sm.rng d) ihX h9 (by have := k4.rng (Sm.rng d); omega) w11
        obtain ⟨qs, q1, q2⟩ := PB_of (Sm.rng d) ihX k4 hh w16
        have g4 := k4.rng (Sm.rng d)
        have lW : (mk 6 a 0 :: (We ++ mk 11 a (c + We.length + 3 + W1.length) :: (W1 ++ mk 12 p2 (c + We.length + 3 + W1.length + W2.length) :: W2))).length = We.length + 3 + W1.length + W2.length := by rw [List.length_cons, List.length_append, List.length_cons, List.length_append, List.length_cons]; omega
        refine ⟨⟨10 :: (ns ++ (ms ++ 11 :: qs)), ?_, ?_⟩, by omega⟩
        · have e : We ++ mk 11 a (c + We.length + 3 + W1.length) :: (W1 ++ mk 12 p2 (c + We.length + 3 + W1.length + W2.length) :: W2) = (We ++ [mk 11 a (c + We.length + 3 + W1.length)]) ++ (W1 ++ ([mk 12 p2 (c + We.length + 3 + W1.length + W2.length)] ++ W2)) := by rw [List.append_assoc]; rfl
          rw [e]
          exact (PSk.w0 (Or.inl rfl)).cons ((PSk.ex n1 (x := 10) (by omega)).app (m1.app ((PSk.w1 (x := 11) (by omega)).app q1)))
        · refine (PNc_if (l := 3 * (We.length + W1.length + W2.length)) (by omega) (by omega) (by omega) h1 x1 h6 (n2.le (by omega)) (m2.le (by omega)) (b2 := b2) (Or.inr ⟨k1, by omega, qs, rfl, q2.le (by omega)⟩)).le ?_
          rw [lW]
          omega
/-- a function -/
theorem PNc_fn {n q : Nat} {ms : List Int} (hv : v + n < 1600) (hb : b < 1600) (hk : F0 221 v = 2) (hp : PM F0 v q n) (h5 : F0 225 v = (b : Int)) (hM : PNc F0 b l ms) : PNc F0 v l (2 :: (n : Int) :: ms) := by
  intro F p T R hS hfr hP hT K1
  refine b_276_28 hS ?_
  rw [Int.toNat_natCast, hfr.nd 221 (by decide) (by decide), hk]
  refine ⟨by omega, fun c => absurd c (by decide), fun _ => ⟨fun c => absurd c (by decide), fun _ => ⟨fun c => absurd c (by decide), fun _ => ⟨fun c => absurd c (by decide), fun _ => ?_⟩⟩⟩⟩
  refine CaV.on (s_274 hS hP) ?_
  rintro F1 hS1 ⟨q1, q2⟩
  have hf := hfr.tr q2
  have hp1 : PM F1 v q n := by
    unfold PM at hp ⊢
    rw [hf.nd 224 (by decide) (by decide), hf.nd 221 (by decide) (by decide), hf.nd 222 (by decide) (by decide), hf.nd 227 (by decide) (by decide)]
    exact hp
  refine ⟨fun _ => ⟨by omega, ?_⟩, fun c => absurd rfl c⟩
  refine CaI.on (s_269p hS1 hp1 hv) ?_
  rintro r F2 hS2 ⟨rfl, rfl⟩
  refine CaV.on (s_274 hS2 q1) ?_
  rintro F3 hS3 ⟨q3, q4⟩
  have hf3 := hf.tr q4
  rw [hf3.nd 225 (by decide) (by decide), h5]
  refine ⟨by omega, by omega, CaV.on (s_275 hS3 q3 (by omega)) ?_⟩
  rintro F4 hS4 ⟨q5, q6⟩
  refine pop_v hS4 (hf3.tr q6) q5 hb hT hM ?_
  intro F5 hS5 hf5 hP5
  exact K1 F5 hS5 hf5 hP5
theorem PS_items (hX : ∀ r, r < 24 → Rok (X r)) (hf : f < 3) {top : Nat} : ∀ (I : List IT) (x : Int) (c lo : Nat), ItC F0 (ks X f) top x c lo I (-1) → Wat X f c (wrdO I) → (∀ e ∈ fnsO F0 c I, e ∈ Fw X f) → ∃ ns, PSk (ks X f) (wrdO I) ns ∧ PRc F0 x (-1) (3 * (wrdO I).length + 1) ns
  | [], x, c, lo, h, hW, _ => by
    obtain ⟨rfl, -⟩ := h
    exact ⟨[], PSk.nil, fun F p T R hS hfr hP hT K1 => K1 F hS hfr hP⟩
  | it :: I, x, c, lo, h, hW, hm => by
    obtain ⟨rfl, hi, hP, h3⟩ := h
    obtain ⟨hWa, hWb⟩ := Wat.app (V := it.2.2.2.2.2) (W := wrdO I) hW
    obtain ⟨ms, m1, m2⟩ := PS_items hX hf I _ _ _ h3 hWb (fun e he => hm e (List.mem_append_right _ he))
    have hv := hP.1
    have hnx : F0 227 it.1 = -1 ∨ (0 ≤ F0 227 it.1 ∧ F0 227 it.1 < 1600) := by
      cases I with
      | nil => exact Or.inl h3.1
      | cons a I =>
        obtain ⟨e1, hi', hP', -⟩ := h3
        have := hP'.1
        exact Or.inr ⟨by omega, by omega⟩
    have one : ∃ ns, PSk (ks X f) it.2.2.2.2.2 ns ∧ PNc F0 it.1 (3 * it.2.2.2.2.2.length) ns ∧ 1 ≤ it.2.2.2.2.2.length := by
      have hP' := hP
      obtain ⟨q0, q1, q2, q3, q4⟩ := hP'
      rcases q1 with ⟨q1, e1, e2, e3⟩ | ⟨q1, e1, e2, e3, e4, e5, e6, W1, e7, e8⟩
      · rw [e3]
        exact ⟨[((1 : Nat) : Int)], PSk.w1 (by omega), PNc_leaf q0 e1 (by decide), Nat.le_refl _⟩
      · have gg := e7.rng Sme.rng
        obtain ⟨d, e7'⟩ := e7.un
        rw [e8] at hWa ⊢
        obtain ⟨w1, w2, w3, w4⟩ := wat_hd hWa
        obtain ⟨w5, w6⟩ := w4.app
        obtain ⟨ns, n1, n2⟩ := PB_of (Sm.rng d) (PS_of hX hf d) e7' (by omega) w5
        have hp0 : it.2.2.1 < 256 := (it_fn (F := F0) hX hf (it :: I) c hm it (List.mem_cons_self) q1).1
        refine ⟨2 :: (it.2.2.2.1 : Int) :: ns, ?_, (PNc_fn (by omega) (by omega) e1 e3 e4 n2).le ?_, ?_⟩
        · have h2 : PSk (ks X f) [mk 2 it.2.2.1 it.2.2.2.1] [2, (it.2.2.2.1 : Int)] := fun V p => by
            show pcl (ks X f) (mk 2 it.2.2.1 it.2.2.2.1 :: V) p [] = _
            show (if 14 ≤ wo (mk 2 it.2.2.1 it.2.2.2.1) then _ else if wo (mk 2 it.2.2.1 it.2.2.2.1) = 2 then pcl (ks X f) V (prn p [2, we (mk 2 it.2.2.1 it.2.2.2.1)]) [] else _) = _
            rw [wo_mk (by decide), we_mk (by decide) hp0, if_neg (by decide), if_pos (by decide)]
          have := h2.cons (n1.app (PSk.w0 (o := 5) (t := 0) (e := 0) (Or.inr rfl)))
          rw [List.append_nil] at this
          exact this
        · rw [List.length_cons, List.length_append, List.length_singleton]; omega
        · rw [List.length_cons]; omega
    obtain ⟨ns, n1, n2, n3⟩ := one
    refine ⟨ns ++ ms, n1.app m1, fun F p T R hS hfr hP1 hT K1 => ?_⟩
    have lw : (wrdO (it :: I)).length = it.2.2.2.2.2.length + (wrdO I).length := by show (it.2.2.2.2.2 ++ wrdO I).length = _; rw [List.length_append]
    rw [lw] at hT
    rw [show rowt (it.1 : Int) = [2 * (it.1 : Int) + 1] from if_neg (by omega)] at hP1
    refine pop_r (l := 3 * it.2.2.2.2.2.length) hS hfr hP1 hv (by omega) hnx n2 ?_
    intro F2 hS2 hf2 hP2
    refine m2 F2 _ T R hS2 hf2 hP2 (by omega) ?_
    intro F3 hS3 hf3 hP3
    rw [← prn_app] at hP3
    exact K1 F3 hS3 hf3 hP3
/-- the print of a file -/
theorem s_277 (hK : LKd F0 X nn) (hS : St F0) (hf : f < 3) : C_277 (f : Int) F0 (fun r F' => r = pcl (ks X f) (Cw X f) 7 [] ∧ frP F0 F') m_no := by
  have hX := hK.1.hX
  have hlen := (Fw_len hX hf).2.2.1
  obtain ⟨I, ⟨i1, i2, i3, i4⟩, -⟩ := hK.2.2 f hf
  obtain ⟨ns, n1, n2⟩ := PS_items hX hf I _ _ _ i1 ⟨by rw [i4]; omega, fun j hj => by rw [i4, Nat.zero_add]⟩ (fun e he => by rw [i2] at he; exact he)
  rw [i4] at n1 n2
  have hx : F0 245 f = -1 ∨ (0 ≤ F0 245 f ∧ F0 245 f < 1600) := by
    cases I with
    | nil => exact Or.inl i1.1
    | cons a I =>
      obtain ⟨e1, hi', hP', -⟩ := i1
      have := hP'.1
      exact Or.inr ⟨by omega, by omega⟩
  have e0 : pcl (ks X f) (Cw X f) 7 [] = prn 7 ns := by
    have := n1 [] 7
    rw [List.append_nil] at this
    exact this
  rw [e0]
  obtain ⟨F1, e1⟩ : ∃ F1, F1 = m_up (m_up F0 201 80 7) 201 73 0 := ⟨_, rfl⟩
  have hS1 : St F1 := by rw [e1]; exact (hS.fld kd_201 rk_12_80).fld kd_201 rk_12_73
  have f1 : frP F0 F1 := ⟨fun c y z => by rw [e1, up_row y, up_row y], fun j y z => by rw [e1, u_ne (Or.inr y), u_ne (Or.inr z)]⟩
  have P1 : RPr F1 7 [] := ⟨by rw [e1, u_ne (Or.inr (by decide)), u_eq], by rw [e1, u_eq]; rfl, fun j h => absurd h (Nat.not_lt_zero j)⟩
  have go : ∀ F2, St F2 → frP F0 F2 → RPr F2 7 ([] ++ rowt (F0 245 f)) → L_277_36 F2 (fun r F' => r = prn 7 ns ∧ frP F0 F') m_no := by
    intro F2 hS2 hf2 hP2
    refine n2 F2 7 [] _ hS2 hf2 hP2 (by rw [List.length_nil]; omega) ?_
    intro F3 hS3 hf3 hP3
    have h73 : F3 201 73 = 0 := hP3.2.1
    refine b_277_36 hS3 ?_
    rw [h73, hP3.1]
    exact ⟨fun h => absurd h (by decide), fun _ => ⟨rfl, hf3⟩⟩
  refine c_277 hS ?_
  rw [← e1, Int.toNat_natCast]
  refine ⟨by omega, fun c => ?_, fun c => ⟨by omega, by omega, by omega, ?_⟩⟩
  · exact go F1 hS1 f1 (by unfold rowt; rw [if_pos c]; exact P1)
  · refine CaV.on (s_275 hS1 P1 (by decide)) ?_
    rintro F2 hS2 ⟨q1, q2⟩
    exact go F2 hS2 (f1.tr q2) (by unfold rowt; rw [if_neg c]; exact q1)
end Mf5
