/-! PRINTING: exprs on both sides -/
section Mf4
variable {F F0 G H : MF} {K : List Int} {v u l k f lo hi : Nat} {x y z p w : Int} {T ns ms W W1 W2 V : List Int} {st : List (Int × Int)} {a b : Int × Int} {R : Int → MF → Prop}
theorem pcl_x (h : 14 ≤ wo w) : pcl K (w :: W) p st = pcl K W p (ppw K w (drn W) st) := by
  show (if 14 ≤ wo w then _ else _) = _
  rw [if_pos h]
theorem PNc.le {l' : Nat} (h : PNc F0 v l ns) (hl : l ≤ l') : PNc F0 v l' ns := fun F p T R a1 a2 a3 a4 => h F p T R a1 a2 a3 (by omega)
theorem PRc.le {l' : Nat} (h : PRc F0 x z l ns) (hl : l ≤ l') : PRc F0 x z l' ns := fun F p T R a1 a2 a3 a4 => h F p T R a1 a2 a3 (by omega)
theorem drn_mk {o t e : Nat} (h : o < 256) (h9 : o ≠ 9) : drn (mk o t e :: V) = false := by
  show decide (wo (mk o t e) = 9) = false
  rw [wo_mk h]
  exact decide_eq_false (by omega)
theorem Rp_hd : ∀ (d lo hi v : Nat) (W : List Int) (fi : Int), Rp F0 K d lo hi v W fi → ∃ o t e W', W = mk o t e :: W' ∧ 14 ≤ o ∧ o < 256 := by
  intro d
  induction d with
  | zero => intro lo hi v W fi h; exact absurd h (fun h => h)
  | succ d ih =>
    intro lo hi v W fi h
    have app : ∀ {W1 V : List Int}, (∃ o t e W', W1 = mk o t e :: W' ∧ 14 ≤ o ∧ o < 256) → ∃ o t e W', W1 ++ V = mk o t e :: W' ∧ 14 ≤ o ∧ o < 256 := fun {W1 V} h => by
      obtain ⟨o, t, e, W', rfl, h2⟩ := h
      exact ⟨o, t, e, W' ++ V, rfl, h2⟩
    rcases h with ⟨-, -, -, p, -, rfl, -⟩ | ⟨-, -, u, p, W1, f1, -, -, h5, -, rfl, -⟩ | ⟨-, -, u, w, m, p, W1, W2, f1, f2, -, -, -, -, h7, -, -, rfl, -⟩ | ⟨o, e, W1, f1, h1, rfl, -⟩ | ⟨-, -, k, p, y, W1, -, h4, -, rfl, -⟩
    · exact ⟨14, p, 0, [], rfl, by decide⟩
    · exact app (ih _ _ _ _ _ h5)
    · exact app (app (ih _ _ _ _ _ h7))
    · exact app (ih _ _ _ _ _ h1)
    · have ar : ∀ (k lo hi : Nat) (x y : Int) (W : List Int), ArL (Rp F0 K d) F0 k lo hi x y W → W = [] ∨ ∃ o t e W', W = mk o t e :: W' ∧ 14 ≤ o ∧ o < 256 := by
        intro k
        induction k with
        | zero => rintro lo hi x y W ⟨-, -, -, h⟩; exact Or.inl h
        | succ k ih2 =>
          rintro lo hi x y W ⟨m, v, x', y', W1, W2, fi, h1, -, h3, -, rfl, -⟩
          right
          rcases ih2 _ _ _ _ _ h1 with e | e
          · rw [e]
            exact ih _ _ _ _ _ h3
          · exact app e
      rcases ar _ _ _ _ _ _ h4 with e | e
      · rw [e]
        exact ⟨15, p, k, [], rfl, by decide⟩
      · exact app e
theorem Rp_dr {d : Nat} {fi : Int} (h : Rp F0 K d lo hi v W fi) : drn (W ++ V) = false := by
  obtain ⟨o, t, e, W', rfl, h1, h2⟩ := Rp_hd _ _ _ _ _ _ h
  exact drn_mk h2 (by omega)
theorem PAk_of {P : Nat → Nat → Nat → List Int → Int → Prop} (hP : ∀ a b v W fi, P a b v W fi → a ≤ v ∧ v < b) (hd : ∀ a b v W fi V, P a b v W fi → drn (W ++ V) = false) (hX : ∀ a b v W fi, P a b v W fi → b ≤ 1600 → (∀ w ∈ W, WC K w) → ∃ ns, PXk K W ns ∧ PNc F0 v (3 * W.length) ns) (hlen : ∀ a b v W fi, P a b v W fi → 1 ≤ W.length) :
    ∀ (k lo hi : Nat) (x y : Int) (W : List Int), ArL P F0 k lo hi x y W → hi ≤ 1600 → (∀ w ∈ W, WC K w) → (0 < k → F0 227 y.toNat = -1 ∨ (0 ≤ F0 227 y.toNat ∧ F0 227 y.toNat < 1600)) → ∃ NS : List (List Int), NS.length = k ∧ PAk K W NS ∧ PRc F0 x (if k = 0 then -1 else F0 227 y.toNat) (3 * W.length + 1) NS.flatten := by
  intro k
  induction k with
  | zero =>
    rintro lo hi x y W ⟨h1, rfl, h3, rfl⟩ hh hw hz
    refine ⟨[], rfl, fun V p st _ => ⟨[], trivial, rfl, rfl⟩, fun F p T R hS hfr hP hT K1 => ?_⟩
    rw [if_pos rfl] at K1
    exact K1 F hS hfr hP
  | succ k ih =>
    rintro lo hi x y W ⟨m, v, x', y', W1, W2, fi, h1, rfl, h3, h4, rfl, h6⟩ hh hw hz
    have r1 := ArL.rng hP _ _ _ _ _ _ h1
    have r2 := hP _ _ _ _ _ h3
    have hz' := hz (Nat.succ_pos k)
    rw [Int.toNat_natCast] at hz' ⊢
    have l2 := hlen _ _ _ _ _ h3
    obtain ⟨ns, n1, n2⟩ := hX _ _ _ _ _ h3 hh (fun w h => hw w (List.mem_append_right _ h))
    obtain ⟨NS, m1, m2, m3⟩ := ih lo m x' y' W1 h1 (by omega) (fun w h => hw w (List.mem_append_left _ h)) (fun hk => by
      rw [if_neg (by omega)] at h6
      exact Or.inr ⟨by omega, by omega⟩)
    have af : ∀ (l : List (Int × Int)) (M : List (List Int)) (a : Int × Int), AfL l M → Afn a ns → AfL (l ++ [a]) (M ++ [ns]) := by
      intro l
      induction l with
      | nil =>
        intro M a h h'
        cases M with
        | nil => exact ⟨h', trivial⟩
        | cons _ _ => exact h.elim
      | cons b l ih3 =>
        intro M a h h'
        cases M with
        | nil => exact h.elim
        | cons _ M => exact ⟨h.1, ih3 M a h.2 h'⟩
    refine ⟨NS ++ [ns], by rw [List.length_append, m1, List.length_singleton], fun V p st hV => ?_, fun F p T R hS hfr hP hT K1 => ?_⟩
    · obtain ⟨l, q1, q2, q3⟩ := m2 (W2 ++ V) p st (hd _ _ _ _ _ V h3)
      obtain ⟨a, q4, q5⟩ := n1 V p (l.reverse ++ st) hV
      refine ⟨l ++ [a], af l NS a q1 q4, by rw [List.length_append, List.length_append, q2, List.length_singleton, List.length_singleton], ?_⟩
      rw [List.append_assoc, q3, q5, List.reverse_append]
      rfl
    · rw [if_neg (Nat.succ_ne_zero k)] at K1
      rw [List.length_append] at hT
      rw [List.flatten_append, show [ns].flatten = ns from List.append_nil ns] at K1
      have last : ∀ F1 p1, St F1 → frP F0 F1 → RPr F1 p1 (T ++ rowt (v : Int)) → p1 = prn p NS.flatten → L_277_36 F1 R m_no := by
        intro F1 p1 hS1 hf1 hP1 hp1
        rw [show rowt (v : Int) = [2 * (v : Int) + 1] from if_neg (by omega)] at hP1
        refine pop_r (l := 3 * W2.length) hS1 hf1 hP1 (by omega) (by omega) hz' n2 ?_
        intro F2 hS2 hf2 hP2
        rw [hp1, ← prn_app] at hP2
        exact K1 F2 hS2 hf2 hP2
      by_cases e : k = 0
      · subst e
        have e1 : NS = [] := List.length_eq_zero_iff.mp m1
        rw [if_pos rfl] at h6
        rw [h6] at hP
        exact last F p hS hfr hP (by rw [e1]; rfl)
      · rw [if_neg e] at h6 m3
        rw [h6.1] at hP
        refine m3 F p T R hS hfr hP (by omega) ?_
        intro F1 hS1 hf1 hP1
        rw [h6.2] at hP1
        exact last F1 _ hS1 hf1 hP1 rfl
theorem PN_of (hK195 : True) : ∀ (d lo hi v : Nat) (W : List Int) (fi : Int), Rp F0 K d lo hi v W fi → hi ≤ 1600 → (∀ w ∈ W, WC K w) → ∃ ns, PXk K W ns ∧ PNc F0 v (3 * W.length) ns := by
  intro d
  induction d with
  | zero => intro lo hi v W fi h; exact absurd h (fun h => h)
  | succ d ih =>
    intro lo hi v W fi hRp hh hw
    have rg := Rp.rng _ _ _ _ _ _ hRp
    have hv16 : v < 1600 := by omega
    rcases hRp with ⟨h1, -, -, p, h2, rfl, -⟩ | ⟨h1, -, u, p, W1, f1, h3, h4, h5, h2, rfl, -⟩ | ⟨h1, -, u, k, m, p, W1, W2, f1, f2, h3, h4, h5, h6, h7, h8, h9, rfl, -⟩ | ⟨o, e, W1, f1, h1, rfl, -⟩ | ⟨h1, -, k, p, y, W1, h2, h4, h5, rfl, -, hp⟩
    · refine ⟨[((13 : Nat) : Int)], fun V q st hV => ⟨(31, 13), Afn.nil1, ?_⟩, PNc_leaf hv16 h1 (by decide)⟩
      show pcl K (mk 14 p 0 :: V) q st = _
      rw [pcl_x (by rw [wo_mk (by decide)]; decide)]
      unfold ppw
      rw [wo_mk (by decide), if_pos (by decide)]
    · have ru := Rp.rng _ _ _ _ _ _ h5
      obtain ⟨ns, n1, n2⟩ := ih _ _ _ _ _ h5 (by omega) (fun w h => hw w (List.mem_append_left _ h))
      refine ⟨((16 : Nat) : Int) :: ns, fun V q st hV => ?_, ?_⟩
      · obtain ⟨a, q1, q2⟩ := n1 ([mk 16 p 0] ++ V) q st (drn_mk (by decide) (by decide))
        refine ⟨jnF [a] (31, 16), ?_, ?_⟩
        · have := jnF_af [a] [ns] (31, 16) [16] ⟨q1, trivial⟩ Afn.nil1
          rw [show [ns].flatten = ns from List.append_nil ns] at this
          exact this
        · rw [List.append_assoc, q2]
          show pcl K (mk 16 p 0 :: V) q (a :: st) = _
          rw [pcl_x (by rw [wo_mk (by decide)]; decide)]
          unfold ppw
          rw [wo_mk (by decide), if_neg (by decide), if_pos (by decide)]
          rfl
      · rw [List.length_append]
        exact PNc_one hv16 (by omega) h1 (by decide) h3 (n2.le (by omega))
    · have ru := Rp.rng _ _ _ _ _ _ h7
      have rk := Rp.rng _ _ _ _ _ _ h8
      obtain ⟨ns, n1, n2⟩ := ih _ _ _ _ _ h7 (by omega) (fun w h => hw w (List.mem_append_left _ (List.mem_append_left _ h)))
      obtain ⟨ms, m1, m2⟩ := ih _ _ _ _ _ h8 (by omega) (fun w h => hw w (List.mem_append_left _ (List.mem_append_right _ h)))
      have hp := mk16 (Or.inr rfl) (hw (mk 17 p 0) (List.mem_append_right _ (List.mem_singleton.mpr rfl)))
      refine ⟨kn K p :: (ns ++ ms), fun V q st hV => ?_, ?_⟩
      · obtain ⟨a, q1, q2⟩ := n1 (W2 ++ ([mk 17 p 0] ++ V)) q st (Rp_dr h8)
        obtain ⟨b, q3, q4⟩ := m1 ([mk 17 p 0] ++ V) q (a :: st) (drn_mk (by decide) (by decide))
        refine ⟨jnF [a, b] (31, kn K p), ?_, ?_⟩
        · have := jnF_af [a, b] [ns, ms] (31, kn K p) [kn K p] ⟨q1, q3, trivial⟩ Afn.nil1
          rw [show [ns, ms].flatten = ns ++ (ms ++ []) from rfl, List.append_nil] at this
          exact this
        · rw [List.append_assoc, List.append_assoc, q2, q4]
          show pcl K (mk 17 p 0 :: V) q (b :: a :: st) = _
          rw [pcl_x (by rw [wo_mk (by decide)]; decide)]
          unfold ppw
          rw [wo_mk (by decide), wt_mk (by decide) hp, Int.toNat_natCast, if_neg (by decide), if_neg (by decide), if_pos (by decide)]
          rfl
      · rw [List.length_append, List.length_append, List.length_singleton]
        exact (PNc_pair (l := 3 * (W1.length + W2.length)) hv16 (by omega) (by omega) h1 h9 h3 h4 (n2.le (by omega)) (m2.le (by omega))).le (by omega)
    · obtain ⟨ns, n1, n2⟩ := ih _ _ _ _ _ h1 hh (fun w h => hw w (List.mem_append_left _ h))
      refine ⟨ns, fun V q st hV => ?_, ?_⟩
      · obtain ⟨a, q1, q2⟩ := n1 ([mk 18 o e] ++ V) q st (drn_mk (by decide) (by decide))
        refine ⟨a, q1, ?_⟩
        rw [List.append_assoc, q2]
        show pcl K (mk 18 o e :: V) q (a :: st) = _
        rw [pcl_x (by rw [wo_mk (by decide)]; decide)]
        unfold ppw
        rw [wo_mk (by decide), if_neg (by decide), if_neg (by decide), if_neg (by decide), if_neg (by decide)]
      · rw [List.length_append]
        exact n2.le (by omega)
    · have g := ArL.rng (Rp.rng (F := F0) (K := K) d) _ _ _ _ _ _ h4
      obtain ⟨NS, m1, m2, m3⟩ := PAk_of (Rp.rng (F := F0) (K := K) d) (fun _ _ _ _ _ _ h => Rp_dr h) ih (fun _ _ _ _ _ h => (Rp_bx _ _ _ _ _ _ h).2) _ _ _ _ _ _ h4 hh (fun w h => hw w (List.mem_append_left _ h)) (fun hk => Or.inl (h5 (by omega)))
      have e0 : (if k = 0 then -1 else F0 227 y.toNat) = -1 := by
        by_cases e : k = 0
        · rw [if_pos e]
        · rw [if_neg e]; exact h5 (by omega)
      rw [e0] at m3
      refine ⟨((14 : Nat) : Int) :: (NS.flatten ++ [((14 + 1 : Nat) : Int)]), fun V q st hV => ?_, ?_⟩
      · obtain ⟨l, q1, q2, q3⟩ := m2 ([mk 15 p k] ++ V) q st (drn_mk (by decide) (by decide))
        refine ⟨bhF 15 (jnF l (31, 14)), (jnF_af l NS (31, 14) [14] q1 Afn.nil1).bh (by decide), ?_⟩
        rw [List.append_assoc, q3]
        show pcl K (mk 15 p k :: V) q (l.reverse ++ st) = _
        have ll : l.reverse.length = k := by rw [List.length_reverse, q2, m1]
        rw [pcl_x (by rw [wo_mk (by decide)]; decide), hV]
        unfold ppw
        rw [wo_mk (by decide), we_mk (by decide) hp, Int.toNat_natCast, if_neg (by decide), if_neg (by decide), if_neg (by decide), if_pos (by decide), ← ll, List.take_left, List.drop_left, List.reverse_reverse]
        rfl
      · rw [List.length_append, List.length_singleton]
        exact (PNc_row hv16 h1 (by decide) rfl (by omega) m3).le (by omega)
/-- a call alone, ahead of DROP -/
theorem PN_alone {d : Nat} {fi : Int} {D : List Int} {p' k' : Nat} (hRp : Rp F0 K d lo hi u W fi) (hW : W = D ++ [mk 15 p' k']) (hh : hi ≤ 1600) (hw : ∀ w ∈ W, WC K w) (hv : v < 1600) (hk : F0 221 v = 7) (h4' : F0 224 v = (u : Int)) :
    ∃ ns, (∀ (V : List Int) (p : Int), drn V = true → ∃ a, Afn a ns ∧ pcl K (W ++ V) p [] = pcl K V p [a]) ∧ PNc F0 v (3 * W.length) ns := by
  cases d with
  | zero => exact absurd hRp (fun h => h)
  | succ d =>
    have rg := Rp.rng _ _ _ _ _ _ hRp
    have last : ∀ (V : List Int) (o t e : Nat), W = V ++ [mk o t e] → o < 256 → o = 15 := by
      intro V o t e h1 h2
      rw [hW] at h1
      have := (List.append_inj' h1 rfl).2
      injection this with h3
      have h4 := congrArg wo h3
      rw [wo_mk (by decide), wo_mk h2] at h4
      omega
    rcases hRp with ⟨h1, -, -, p, h2, hW2, -⟩ | ⟨h1, -, u', p, W1, f1, h3, h4, h5, h2, hW2, -⟩ | ⟨h1, -, u', k, m, p, W1, W2, f1, f2, h3, h4, h5, h6, h7, h8, h9, hW2, -⟩ | ⟨o, e, W1, f1, h1, hW2, -⟩ | ⟨h1, -, k, p, y, W1, h2, h4, h5, hW2, -, hp⟩
    · exact absurd (last [] 14 p 0 hW2 (by decide)) (by decide)
    · exact absurd (last W1 16 p 0 hW2 (by decide)) (by decide)
    · exact absurd (last (W1 ++ W2) 17 p 0 hW2 (by decide)) (by decide)
    · exact absurd (last W1 18 o e hW2 (by decide)) (by decide)
    · rw [hW2] at hw ⊢
      have g := ArL.rng (Rp.rng (F := F0) (K := K) d) _ _ _ _ _ _ h4
      obtain ⟨NS, m1, m2, m3⟩ := PAk_of (Rp.rng (F := F0) (K := K) d) (fun _ _ _ _ _ _ h => Rp_dr h) (PN_of trivial d) (fun _ _ _ _ _ h => (Rp_bx _ _ _ _ _ _ h).2) _ _ _ _ _ _ h4 hh (fun w h => hw w (List.mem_append_left _ h)) (fun hk => Or.inl (h5 (by omega)))
      have e0 : (if k = 0 then -1 else F0 227 y.toNat) = -1 := by
        by_cases e : k = 0
        · rw [if_pos e]
        · rw [if_neg e]; exact h5 (by omega)
      rw [e0] at m3
      refine ⟨7 :: (NS.flatten ++ [8]), fun V q hV => ?_, ?_⟩
      · obtain ⟨l, q1, q2, q3⟩ := m2 ([mk 15 p k] ++ V) q [] (drn_mk (by decide) (by decide))
        refine ⟨bhF 8 (jnF l (31, 7)), (jnF_af l NS (31, 7) [7] q1 Afn.nil1).bh (by decide), ?_⟩
        rw [List.append_assoc, q3]
        show pcl K (mk 15 p k :: V) q (l.reverse ++ []) = _
        have ll : l.reverse.length = k := by rw [List.length_reverse, q2, m1]
        rw [pcl_x (by rw [wo_mk (by decide)]; decide), hV]
        unfold ppw
        rw [wo_mk (by decide), we_mk (by decide) hp, Int.toNat_natCast, if_neg (by decide), if_neg (by decide), if_neg (by decide), if_pos (by decide), ← ll, List.take_left, List.drop_left, List.reverse_reverse]
        rfl
      · rw [List.length_append, List.length_singleton]
        exact (PNc_alone hv (by omega) hk h4' rfl (by omega) m3).le (by omega)
end Mf4
