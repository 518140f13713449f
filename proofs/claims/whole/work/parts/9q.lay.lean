/-! THE ORDER OF NODES, OF THE REFERENCE: exprs -/
theorem nd1 (v : Nat) : [v].Nodup := List.nodup_cons.mpr ⟨List.not_mem_nil, List.nodup_nil⟩
section M9q
variable {B F G : MF} {K : List Int} {vf v how lo hi : Nat} {s : SS} {st Od : List Int} {R : MF → Prop}
theorem psh_no : psh (-1) how st = st := if_pos rfl
theorem psh_len {u : Int} : (psh u how st).length ≤ st.length + 1 := by
  unfold psh
  split
  · omega
  · rw [List.length_append, List.length_singleton]; omega
theorem snl {x : Int} : (st ++ [x]).length = st.length + 1 := by rw [List.length_append, List.length_singleton]
/-- of args the run takes where the last one goes on -/
def LAz (F : MF) (K : List Int) (k lo hi : Nat) (x y : Int) (W : List Int) : Prop := ∃ (L : List Nat) (as : List (Nat × Int)), as.length = k ∧ (∀ vf s ns, OM F K vf s ns L W (as ++ ns)) ∧ (k = 0 ∧ as = [] ∨ 0 < k ∧ ArC F x as.reverse (F 227 y.toNat)) ∧ (∀ s, sfo s W = s) ∧ (∀ n ∈ L, lo ≤ n ∧ n < hi) ∧ L.Nodup ∧ L.length ≤ hi - lo ∧
  ∀ (B G : MF) (st Od : List Int) (R : MF → Prop), St G → LSo B F G (psh x 3 st) Od → st.length + 2 * (hi - lo) + 4 ≤ 3200 → Od.length + (hi - lo) ≤ 1600 → (0 < k → F 227 y.toNat = -1 ∨ (0 ≤ F 227 y.toNat ∧ F 227 y.toNat < 1600)) → (∀ G', St G' → LSo B F G' (if k = 0 then st else psh (F 227 y.toNat) 3 st) (Od ++ ndc L) → L_252_16 G' R m_no) → L_252_16 G R m_no
theorem LAz_of {P : Nat → Nat → Nat → List Int → Int → Prop} (hP : ∀ a b v W f, P a b v W f → a ≤ v ∧ v < b) (hX : ∀ a b v W f, P a b v W f → b ≤ 1600 → LX F K a b v W f) : ∀ (k lo hi : Nat) (x y : Int) (W : List Int), ArL P F k lo hi x y W → hi ≤ 1600 → LAz F K k lo hi x y W := by
  intro k
  induction k with
  | zero =>
    rintro lo hi x y W ⟨h1, rfl, h3, rfl⟩ hh
    refine ⟨[], [], rfl, fun vf s ns => ⟨rfl, rfl⟩, Or.inl ⟨rfl, rfl⟩, fun s => rfl, fun n h => absurd h (List.not_mem_nil), List.nodup_nil, Nat.zero_le _, fun B G st Od R hS hL _ _ _ hR => ?_⟩
    refine hR G hS ?_
    rw [if_pos rfl, show Od ++ ndc [] = Od from List.append_nil Od]
    rw [psh_no] at hL
    exact hL
  | succ k ih =>
    rintro lo hi x y W ⟨m, v, x', y', W1, W2, f, h1, rfl, h3, h4, rfl, h6⟩ hh
    have r1 := ArL.rng hP _ _ _ _ _ _ h1
    have r2 := hP _ _ _ _ _ h3
    obtain ⟨L1, as, a1, a2, a3, a4, a5, a6, a7, a8⟩ := ih lo m x' y' W1 h1 (by omega)
    obtain ⟨L2, b1, b2, b3, b4, b5, b6⟩ := hX _ _ _ _ _ h3 hh
    refine ⟨L1 ++ L2, (v, f) :: as, by rw [List.length_cons, a1], fun vf s ns => ?_, Or.inr ⟨Nat.succ_pos k, ?_⟩, fun s => by rw [sfo_app, a4, b2], fun n hn => ?_, nodup_app a6 b4 (fun a ha b hb => by have := a5 a ha; have := b3 b hb; omega), by rw [List.length_append]; omega, ?_⟩
    · refine (a2 vf s ns).app _ _ _ _ ?_
      rw [a4]
      exact b1 vf s (as ++ ns)
    · rw [List.reverse_cons, Int.toNat_natCast]
      rcases a3 with ⟨e, e2⟩ | ⟨e, e2⟩
      · rw [if_pos e] at h6
        rw [e2]
        exact ⟨h6, h4, rfl⟩
      · rw [if_neg (by omega)] at h6
        rw [h6.1]
        refine ArC.snoc _ _ _ (v, f) ?_ h4 rfl
        rw [h6.2] at e2
        exact e2
    · rcases List.mem_append.mp hn with hn | hn
      · have := a5 n hn; omega
      · have := b3 n hn; omega
    · intro B G st Od R hS hL hb hO hz hR
      rw [Int.toNat_natCast] at hz hR
      have hz := hz (Nat.succ_pos k)
      rw [if_neg (by omega)] at hR
      have key : ∀ G1, St G1 → LSo B F G1 (psh (v : Int) 3 st) (Od ++ ndc L1) → L_252_16 G1 R m_no := by
        intro G1 hS1 l1
        rw [psh_n] at l1
        have lO : (Od ++ ndc L1).length = Od.length + L1.length := by rw [List.length_append, ndc_len]
        refine lpop (how := 3) hS1 l1 (by omega) (by decide) (by omega) (by omega) (fun _ _ _ h => absurd h (by decide)) (fun _ _ _ h => absurd h (by decide)) (fun G2 hS2 l2 _ => ?_) (fun _ _ _ h => absurd h (by decide))
        refine CaV.on (s_249 (how := 3) hS2 l2 hz (by decide) (by omega)) ?_
        intro G3 hS3 l3
        have pl := psh_len (u := F 227 v) (how := 3) (st := st)
        refine CaV.on (s_249 (how := 1) (u := (v : Int)) hS3 l3 (Or.inr ⟨by omega, by omega⟩) (by decide) (by omega)) ?_
        intro G4 hS4 l4
        rw [psh_n] at l4
        refine b6 B G4 _ _ R hS4 l4 (by omega) (by omega) ?_
        intro G5 hS5 l5
        refine hR G5 hS5 ?_
        rw [ndc_app, ← List.append_assoc]
        exact l5
      by_cases e : k = 0
      · rw [if_pos e] at h6
        rcases a3 with ⟨-, e2⟩ | ⟨e2, -⟩
        · have : L1 = [] := by
            subst e
            obtain ⟨-, -, -, rfl⟩ := h1
            exact (a2 0 ss0 []).1
          rw [this] at key
          refine key G hS ?_
          rw [show Od ++ ndc [] = Od from List.append_nil Od, ← h6]
          exact hL
        · omega
      · rw [if_neg e] at h6
        rw [h6.1] at hL
        refine a8 B G st Od R hS hL (by omega) (by omega) (fun _ => Or.inr (by rw [h6.2]; omega)) ?_
        intro G1 hS1 l1
        rw [if_neg e, h6.2] at l1
        exact key G1 hS1 l1
theorem LX_of : ∀ (d lo hi v : Nat) (W : List Int) (f : Int), Rp F K d lo hi v W f → hi ≤ 1600 → LX F K lo hi v W f := by
  intro d
  induction d with
  | zero => intro lo hi v W f h; exact absurd h (fun h => h)
  | succ d ih =>
    intro lo hi v W f h hh
    have hr := Rp.rng _ _ _ _ _ _ h
    -- the node comes behind its parts
    have fin : ∀ {L : List Nat} {st Od : List Int} {R : MF → Prop} {B G : MF}, St G → LSo B F G (st ++ [((4 * v + 2 : Nat) : Int)]) (Od ++ ndc L) → st.length < 3200 → Od.length + L.length < 1600 → (∀ G', St G' → LSo B F G' st (Od ++ ndc (L ++ [v])) → L_252_16 G' R m_no) → L_252_16 G R m_no := by
      intro L st Od R B G hS hL h1 h2 hR
      refine lpop (how := 2) hS hL (by omega) (by decide) h1 (by rw [List.length_append, ndc_len]; exact h2) (fun _ _ _ h => absurd h (by decide)) (fun _ _ _ h => absurd h (by decide)) (fun _ _ _ h => absurd h (by decide)) (fun G1 hS1 l1 _ => ?_)
      refine hR G1 hS1 ?_
      rw [ndc_app, ← List.append_assoc]
      exact l1
    have op : ∀ {B G : MF} {st Od : List Int} {R : MF → Prop} {kk one two : Int}, St G → LSo B F G (st ++ [((4 * v + 1 : Nat) : Int)]) Od → st.length + 2 * (hi - lo) + 3 ≤ 3200 → Od.length + (hi - lo) ≤ 1600 → F 221 v = kk → F 224 v = one → F 225 v = two → (one = -1 ∨ (0 ≤ one ∧ one < 1600)) → (kk ≠ 14 → two = -1 ∨ (0 ≤ two ∧ two < 1600)) →
        (∀ G', St G' → LSo B F G' (if kk = 14 then psh one 3 (st ++ [((4 * v + 2 : Nat) : Int)]) else psh one 1 (psh two 1 (st ++ [((4 * v + 2 : Nat) : Int)]))) Od → L_252_16 G' R m_no) → L_252_16 G R m_no := by
      intro B G st Od R kk one two hS hL hb hO e1 e2 e3 h1 h2 hR
      refine lpop (how := 1) hS hL (by omega) (by decide) (by omega) (by omega) (fun _ _ _ h => absurd h (by decide)) (fun G1 hS1 l1 _ => ?_) (fun _ _ _ h => absurd h (by decide)) (fun _ _ _ h => absurd h (by decide))
      exact CaV.on (s_251 hS1 l1 (by omega) (by omega) e1 e2 e3 h1 h2) (fun G2 hS2 l2 => hR G2 hS2 l2)
    rcases h with ⟨h0, h1, h2, p, h3, rfl, rfl, h4, h5⟩ | ⟨h1, h2, u, p, W1, f1, h3, h4, h5, h6, rfl, rfl, h7⟩ | ⟨h1, h2, u, w, m, p, W1, W2, f1, f2, h3, h4, h5, h6, h7, h8, h9, rfl, rfl⟩ | ⟨o, e, W1, f1, h1, rfl, rfl⟩ | ⟨h1, h2, k, p, y, W1, h3, h4, h5, rfl, rfl, hp⟩
    · refine ⟨[v], fun vf s ns => OM.one (Or.inl ⟨p, v, rfl, rfl, h0, h3, rfl⟩), fun s => sst_x (by decide) (by decide), fun n hn => ?_, nd1 v, by rw [List.length_singleton]; omega, fun B G st Od R hS hL hb hO hR => ?_⟩
      · rw [List.mem_singleton.mp hn]; omega
      · refine op hS hL hb hO h0 h4 h5 (Or.inl rfl) (fun _ => Or.inl rfl) (fun G1 hS1 l1 => ?_)
        rw [if_neg (by decide), psh_no, psh_no] at l1
        refine fin (L := []) hS1 (by rw [show Od ++ ndc [] = Od from List.append_nil Od]; exact l1) (by omega) (by show Od.length + 0 < 1600; omega) hR
    · have g := Rp.rng _ _ _ _ _ _ h5
      obtain ⟨L, b1, b2, b3, b4, b5, b6⟩ := ih _ _ _ _ _ h5 (by omega)
      refine ⟨L ++ [v], fun vf s ns => ?_, fun s => by rw [sfo_app, b2]; exact sst_x (by decide) (by decide), fun n hn => ?_, nodup_app b4 (nd1 v) (fun a ha b hb => by have := b3 a ha; rw [List.mem_singleton.mp hb]; omega), by rw [List.length_append, List.length_singleton]; omega, fun B G st Od R hS hL hb hO hR => ?_⟩
      · refine (b1 vf s ns).app _ _ _ _ (OM.one ?_)
        exact Or.inr (Or.inl ⟨p, v, u, f1, ns, rfl, rfl, rfl, h1, h6, h3, h4, rfl⟩)
      · rcases List.mem_append.mp hn with hn | hn
        · have := b3 n hn; omega
        · rw [List.mem_singleton.mp hn]; omega
      · refine op hS hL hb hO h1 h3 h7 (Or.inr ⟨by omega, by omega⟩) (fun _ => Or.inl rfl) (fun G1 hS1 l1 => ?_)
        rw [if_neg (by decide), psh_no, psh_n] at l1
        refine b6 B G1 _ _ R hS1 l1 (by rw [snl]; omega) (by omega) (fun G2 hS2 l2 => ?_)
        exact fin hS2 l2 (by omega) (by omega) hR
    · have g := Rp.rng _ _ _ _ _ _ h7
      have g2 := Rp.rng _ _ _ _ _ _ h8
      obtain ⟨L, b1, b2, b3, b4, b5, b6⟩ := ih _ _ _ _ _ h7 (by omega)
      obtain ⟨M, c1, c2, c3, c4, c5, c6⟩ := ih _ _ _ _ _ h8 (by omega)
      refine ⟨L ++ M ++ [v], fun vf s ns => ?_, fun s => by rw [sfo_app, sfo_app, b2, c2]; exact sst_x (by decide) (by decide), fun n hn => ?_, nodup_app (nodup_app b4 c4 (fun a ha b hb => by have := b3 a ha; have := c3 b hb; omega)) (nd1 v) (fun a ha b hb => ?_), by rw [List.length_append, List.length_append, List.length_singleton]; omega, fun B G st Od R hS hL hb hO hR => ?_⟩
      · refine OM.app _ _ _ _ (OM.app _ _ _ _ (b1 vf s ns) ?_) (OM.one ?_) (ns1 := (w, f2) :: (u, f) :: ns)
        · rw [b2]; exact c1 vf s _
        · exact Or.inr (Or.inr (Or.inl ⟨p, v, u, w, f, f2, ns, rfl, rfl, rfl, h1, h9, h3, h4, h5, h6, rfl⟩))
      · rcases List.mem_append.mp hn with hn | hn
        · rcases List.mem_append.mp hn with hn | hn
          · have := b3 n hn; omega
          · have := c3 n hn; omega
        · rw [List.mem_singleton.mp hn]; omega
      · rw [List.mem_singleton.mp hb]
        rcases List.mem_append.mp ha with ha | ha
        · have := b3 a ha; omega
        · have := c3 a ha; omega
      · refine op hS hL hb hO h1 h3 h4 (Or.inr ⟨by omega, by omega⟩) (fun _ => Or.inr ⟨by omega, by omega⟩) (fun G1 hS1 l1 => ?_)
        rw [if_neg (by decide), psh_n, psh_n] at l1
        refine b6 B G1 _ _ R hS1 l1 (by rw [snl, snl]; omega) (by omega) (fun G2 hS2 l2 => ?_)
        refine c6 B G2 _ _ R hS2 l2 (by rw [snl]; omega) (by rw [List.length_append, ndc_len]; omega) (fun G3 hS3 l3 => ?_)
        rw [List.append_assoc, ← ndc_app] at l3
        exact fin hS3 l3 (by omega) (by rw [List.length_append]; omega) hR
    · obtain ⟨L, b1, b2, b3, b4, b5, b6⟩ := ih _ _ _ _ _ h1 hh
      refine ⟨L, fun vf s ns => ?_, fun s => by rw [sfo_app, b2]; exact sst_x (by decide) (by decide), b3, b4, b5, b6⟩
      have := (b1 vf s ns).app _ _ _ _ (L2 := []) (W2 := [mk 18 o e]) (ns2 := (v, (o : Int)) :: ns) (OM.one (Or.inr (Or.inr (Or.inr (Or.inl ⟨o, e, v, f1, ns, rfl, rfl, rfl, rfl⟩)))))
      rwa [List.append_nil] at this
    · have g := ArL.rng (Rp.rng (F := F) (K := K) d) _ _ _ _ _ _ h4
      obtain ⟨L, as, a1, a2, a3, a4, a5, a6, a7, a8⟩ := LAz_of (Rp.rng (F := F) (K := K) d) ih _ _ _ _ _ _ h4 hh
      have hch : ArC F (F 224 v) as.reverse (-1) := by
        rcases a3 with ⟨e, e2⟩ | ⟨e, e2⟩
        · rw [e2]
          show F 224 v = -1
          omega
        · have := h5 (by omega)
          rwa [this] at e2
      have hone : F 224 v = -1 ∨ (0 ≤ F 224 v ∧ F 224 v < 1600) := by omega
      refine ⟨L ++ [v], fun vf s ns => ?_, fun s => by rw [sfo_app, a4]; exact sst_x (by decide) (by decide), fun n hn => ?_, nodup_app a6 (nd1 v) (fun a ha b hb => by have := a5 a ha; rw [List.mem_singleton.mp hb]; omega), by rw [List.length_append, List.length_singleton]; omega, fun B G st Od R hS hL hb hO hR => ?_⟩
      · refine (a2 vf s ns).app _ _ _ _ (OM.one ?_)
        exact Or.inr (Or.inr (Or.inr (Or.inr (Or.inl ⟨p, v, as, ns, by rw [a1], rfl, rfl, h1, h3, hch, rfl, hp⟩))))
      · rcases List.mem_append.mp hn with hn | hn
        · have := a5 n hn; omega
        · rw [List.mem_singleton.mp hn]; omega
      · refine op hS hL hb hO h1 rfl rfl hone (fun e => absurd rfl e) (fun G1 hS1 l1 => ?_)
        rw [if_pos rfl] at l1
        refine a8 B G1 _ _ R hS1 l1 (by rw [snl]; omega) (by omega) (fun hk => Or.inl (h5 (by omega))) (fun G2 hS2 l2 => ?_)
        have l3 : LSo B F G2 (st ++ [((4 * v + 2 : Nat) : Int)]) (Od ++ ndc L) := by
          by_cases e : k = 0
          · rw [if_pos e] at l2; exact l2
          · rw [if_neg e, h5 (by omega), psh_no] at l2; exact l2
        exact fin hS2 l3 (by omega) (by omega) hR
theorem LX_xp {u : Int} {W : List Int} (h : Xp F K lo hi u W) (hh : hi ≤ 1600) : ∃ (v lo' hi' : Nat) (f : Int), u = (v : Int) ∧ lo ≤ lo' ∧ hi' ≤ hi ∧ lo' ≤ v ∧ v < hi' ∧ LX F K lo' hi' v W f ∧ F 223 v = f ∧ F 227 v = -1 := by
  obtain ⟨v, l1, h1, f, e1, e2, e3, ⟨d, e4⟩, e5, e6⟩ := h
  have := Rp.rng _ _ _ _ _ _ e4
  exact ⟨v, l1, h1, f, e1, e2, e3, this.1, this.2, LX_of d _ _ _ _ _ e4 (by omega), e5, e6⟩
end M9q
