/-! THE ORDER OF NODES, OF THE REFERENCE: statements -/
section M9r
variable {B F G : MF} {K : List Int} {vf v how lo hi b : Nat} {s : SS} {st Od : List Int} {R : MF → Prop} {Bs : List (List Int)}
def ir1 (u : Int) : Prop := u = -1 ∨ (0 ≤ u ∧ u < 1600)
theorem l_250_86 {kk one : Int} (hS : St G) (h : LSo B F G st Od) (hv : v < 1600) (hst : st.length + 2 < 3200) (e2 : F 224 v = one) (h1 : kk ≠ 3 → kk ≠ 12 → ir1 one) :
    L_250_86 (v : Int) kk G (fun G' => LSo B F G' (if kk = 3 ∨ kk = 12 then st ++ [((4 * v + 2 : Nat) : Int)] else psh one 1 (st ++ [((4 * v + 2 : Nat) : Int)])) Od) m_no := by
  refine b_250_86 hS ?_
  refine CaV.on (s_249 (how := 2) (u := (v : Int)) hS h (Or.inr ⟨by omega, by omega⟩) (by decide) (by omega)) ?_
  intro G1 hS1 l1
  rw [psh_n] at l1
  refine ⟨fun e => ?_, fun e => ⟨fun e12 => ?_, fun e12 => ⟨by omega, ?_⟩⟩⟩
  · rw [if_pos (Or.inl e)]; exact l1
  · rw [if_pos (Or.inr e12)]; exact l1
  · rw [if_neg (by omega), Int.toNat_natCast, l1.nd (c := 224) (by decide) (by decide) (by decide), e2]
    exact s_249 (how := 1) hS1 l1 (h1 e e12) (by decide) (by rw [snl]; omega)
theorem s_250 {kk nx one : Int} (hS : St G) (h : LSo B F G st Od) (hv : v < 1600) (hst : st.length + 6 < 3200) (e1 : F 221 v = kk) (e2 : F 224 v = one) (e3 : F 227 v = nx) (h0 : ir1 nx) (h1 : kk ≠ 12 → ir1 one) (h10 : kk = 10 → (F 226 v = -1 ∨ 0 ≤ F 226 v ∧ F 226 v < 1600 ∧ ir1 (F 224 (F 226 v).toNat)) ∧ 0 ≤ F 225 v ∧ F 225 v < 1600 ∧ ir1 (F 224 (F 225 v).toNat)) :
    C_250 (v : Int) G (fun G' => LSo B F G' ((fun st3 => if kk = 3 ∨ kk = 12 then st3 ++ [((4 * v + 2 : Nat) : Int)] else psh one 1 (st3 ++ [((4 * v + 2 : Nat) : Int)])) (if kk = 10 then psh (F 224 (F 225 v).toNat) 0 (if F 226 v = -1 then psh nx 0 st else psh (F 224 (F 226 v).toNat) 0 (psh nx 0 st)) else if kk = 3 then psh one 0 (psh nx 0 st) else psh nx 0 st)) Od) m_no := by
  have nd : ∀ {G' : MF} {st' : List Int}, LSo B F G' st' Od → (∀ c, 221 ≤ c → c ≤ 229 → G' c = F c) := fun l c x y => l.nd x y trivial
  refine c_250 hS ?_
  rw [Int.toNat_natCast, nd h 227 (by decide) (by decide), nd h 221 (by decide) (by decide), e3, e1]
  refine ⟨by omega, by omega, ?_⟩
  refine CaV.on (s_249 (how := 0) hS h h0 (by decide) (by omega)) ?_
  intro G1 hS1 l1
  have p1 := psh_len (u := nx) (how := 0) (st := st)
  rw [nd l1 226 (by decide) (by decide), nd l1 224 (by decide) (by decide)]
  refine ⟨fun k10 => ⟨by omega, fun e6 => ?_, fun e6 => ⟨by omega, ?_, ?_⟩⟩, fun k10 => ⟨fun k3 => ⟨by omega, ?_⟩, fun k3 => ?_⟩⟩
  · rw [if_pos k10, if_pos e6]
    refine CaV.on (s_249 (how := 0) hS1 l1 (Or.inl rfl) (by decide) (by omega)) ?_
    intro G2 hS2 l2
    rw [psh_no] at l2
    rw [nd l2 225 (by decide) (by decide), nd l2 224 (by decide) (by decide)]
    refine ⟨by omega, (h10 k10).2.imp id (fun h => h.1), ?_⟩
    refine CaV.on (s_249 (how := 0) hS2 l2 (h10 k10).2.2.2 (by decide) (by omega)) ?_
    intro G3 hS3 l3
    have p3 := psh_len (u := F 224 (F 225 v).toNat) (how := 0) (st := psh nx 0 st)
    exact ⟨fun h => absurd h (by omega), fun _ => l_250_86 hS3 l3 hv (by omega) e2 (fun _ h => h1 h)⟩
  · have := (h10 k10).1.resolve_left e6
    exact ⟨this.1, this.2.1⟩
  · have h6 := (h10 k10).1.resolve_left e6
    rw [if_pos k10, if_neg e6]
    refine CaV.on (s_249 (how := 0) hS1 l1 h6.2.2 (by decide) (by omega)) ?_
    intro G2 hS2 l2
    have p2 := psh_len (u := F 224 (F 226 v).toNat) (how := 0) (st := psh nx 0 st)
    rw [nd l2 225 (by decide) (by decide), nd l2 224 (by decide) (by decide)]
    refine ⟨by omega, (h10 k10).2.imp id (fun h => h.1), ?_⟩
    refine CaV.on (s_249 (how := 0) hS2 l2 (h10 k10).2.2.2 (by decide) (by omega)) ?_
    intro G3 hS3 l3
    have p3 := psh_len (u := F 224 (F 225 v).toNat) (how := 0) (st := psh (F 224 (F 226 v).toNat) 0 (psh nx 0 st))
    exact ⟨fun h => absurd h (by omega), fun _ => l_250_86 hS3 l3 hv (by omega) e2 (fun _ h => h1 h)⟩
  · rw [if_neg k10, if_pos k3, e2]
    refine CaV.on (s_249 (how := 0) hS1 l1 (h1 (by omega)) (by decide) (by omega)) ?_
    intro G2 hS2 l2
    have p2 := psh_len (u := one) (how := 0) (st := psh nx 0 st)
    exact l_250_86 hS2 l2 hv (by omega) e2 (fun _ h => h1 h)
  · rw [if_neg k10, if_neg k3]
    exact l_250_86 hS1 l1 hv (by omega) e2 (fun _ h => h1 h)
/-- a statement is laid -/
def LSt (F : MF) (K : List Int) (vf lo hi v : Nat) (W : List Int) : Prop := ∀ s : SS, (∃ d, Env F vf d v (s.1 :: s.2.1)) → ∃ L : List Nat, OM F K vf s [] L W [] ∧ sfo s W = ((if F 221 v = 5 then F 222 v :: s.1 else s.1), s.2) ∧ (∀ n ∈ L, lo ≤ n ∧ n < hi) ∧ L.Nodup ∧ L.length ≤ hi - lo ∧
  ∀ (B G : MF) (st Od : List Int) (R : MF → Prop), St G → LSo B F G (st ++ [((4 * v + 0 : Nat) : Int)]) Od → st.length + 2 * (hi - lo) + 6 ≤ 3200 → Od.length + (hi - lo) ≤ 1600 → ir1 (F 227 v) → (∀ G', St G' → LSo B F G' (psh (F 227 v) 0 st) (Od ++ ndc L) → L_252_16 G' R m_no) → L_252_16 G R m_no
/-- what is in a block is laid -/
def LBk (F : MF) (K : List Int) (vf hi b : Nat) (W : List Int) : Prop := ∀ s : SS, EB F vf b (s.1 :: s.2.1) → ∃ L : List Nat, OM F K vf s [] L W [] ∧ sfo s W = s ∧ (∀ n ∈ L, b + 1 ≤ n ∧ n < hi) ∧ L.Nodup ∧ L.length ≤ hi - (b + 1) ∧
  ∀ (B G : MF) (st Od : List Int) (R : MF → Prop), St G → LSo B F G (psh (F 224 b) 0 st) Od → st.length + 2 * (hi - (b + 1)) + 6 ≤ 3200 → Od.length + (hi - (b + 1)) ≤ 1600 → (∀ G', St G' → LSo B F G' st (Od ++ ndc L) → L_252_16 G' R m_no) → L_252_16 G R m_no
theorem EB.env {k : Nat} {L : List Int} (h : EB F vf b Bs) (hv : v < 1600) (hb : b < 1600) (h1 : F 229 v = (b : Int)) (h2 : LtC F k (F 224 b) v L) : ∃ d, Env F vf d v (L.reverse :: Bs) := by
  rcases h with ⟨e1, e2, e3⟩ | ⟨h, b', e1, e2, e3, e4, d, e5⟩
  · exact ⟨1, b, k, L, Bs, hv, hb, h1, h2, rfl, Or.inl ⟨e1, e2, e3⟩⟩
  · exact ⟨d + 1, b, k, L, Bs, hv, hb, h1, h2, rfl, Or.inr ⟨h, b', e1, e2, e3, e4, e5⟩⟩
theorem LBk_list {P : Nat → Nat → Nat → Nat → List Int → Prop} (hP : ∀ a b c v W, P a b c v W → a ≤ v ∧ v < b) (hX : ∀ a b c v W, P a b c v W → b ≤ 1600 → LSt F K vf a b v W) (s : SS) (hE : EB F vf b s.2.1) (hs : s.1 = []) (hb : b < 1600) : ∀ (k lo hi c : Nat) (x y : Int) (W : List Int), SLq P F b k lo hi c x y W → hi ≤ 1600 → (0 < k → x = F 224 b) →
    ∃ (L : List Nat) (T : List Int), OM F K vf s [] L W [] ∧ sfo s W = (T.reverse, s.2) ∧ (∀ n ∈ L, lo ≤ n ∧ n < hi) ∧ L.Nodup ∧ L.length ≤ hi - lo ∧ (∀ (v : Nat) (z : Int), hi ≤ v → (if k = 0 then z = (v : Int) else z = x ∧ F 227 y.toNat = (v : Int)) → LtC F k z v T) ∧ (k = 0 → L = []) ∧
    ∀ (B G : MF) (st Od : List Int) (R : MF → Prop), St G → LSo B F G (psh x 0 st) Od → st.length + 2 * (hi - lo) + 6 ≤ 3200 → Od.length + (hi - lo) ≤ 1600 → (0 < k → ir1 (F 227 y.toNat)) → (∀ G', St G' → LSo B F G' (if k = 0 then st else psh (F 227 y.toNat) 0 st) (Od ++ ndc L) → L_252_16 G' R m_no) → L_252_16 G R m_no := by
  intro k
  induction k with
  | zero =>
    rintro lo hi c x y W ⟨h1, rfl, h3, rfl⟩ hh _
    refine ⟨[], [], ⟨rfl, rfl⟩, ?_, fun n h => absurd h (List.not_mem_nil), List.nodup_nil, Nat.zero_le _, fun v z _ h => ⟨h, rfl⟩, fun _ => rfl, fun B G st Od R hS hL _ _ _ hR => ?_⟩
    · show s = ([], s.2)
      rw [← hs]
    · refine hR G hS ?_
      rw [if_pos rfl, show Od ++ ndc [] = Od from List.append_nil Od]
      rw [psh_no] at hL
      exact hL
  | succ k ih =>
    rintro lo hi c x y W ⟨m, v, x', y', W1, W2, h1, rfl, h3, h4, rfl, h6⟩ hh hx
    have hx := hx (Nat.succ_pos k)
    have r1 := SLq.rng hP _ _ _ _ _ _ _ h1
    have r2 := hP _ _ _ _ _ h3
    obtain ⟨L1, T, a1, a2, a3, a4, a5, a6, a7, a8⟩ := ih lo m c x' y' W1 h1 (by omega) (fun hk => by rw [if_neg (by omega)] at h6; rw [← h6.1]; exact hx)
    have hT : LtC F k (F 224 b) v T := a6 v _ r2.1 (by
      by_cases e : k = 0
      · rw [if_pos e] at h6 ⊢; rw [← hx]; exact h6
      · rw [if_neg e] at h6 ⊢; exact ⟨by rw [← hx]; exact h6.1, h6.2⟩)
    obtain ⟨L2, b1, b2, b3, b4, b5, b6⟩ := hX _ _ _ _ _ h3 hh (T.reverse, s.2) (hE.env (by omega) hb h4 hT)
    refine ⟨L1 ++ L2, T ++ (if F 221 v = 5 then [F 222 v] else []), OM.app _ _ _ _ a1 (by rw [a2]; exact b1), ?_, fun n hn => ?_, nodup_app a4 b4 (fun a ha b hb => by have := a3 a ha; have := b3 b hb; omega), by rw [List.length_append]; omega, ?_, fun h => by omega, ?_⟩
    · rw [sfo_app, a2, b2, List.reverse_append]
      by_cases e : F 221 v = 5
      · rw [if_pos e, if_pos e]; rfl
      · rw [if_neg e, if_neg e]; rfl
    · rcases List.mem_append.mp hn with hn | hn
      · have := a3 n hn; omega
      · have := b3 n hn; omega
    · intro w z hw hz
      rw [if_neg (by omega), Int.toNat_natCast] at hz
      refine LtC.snoc (u := v) (by omega) hz.2 k z T ?_
      refine a6 v z r2.1 ?_
      by_cases e : k = 0
      · rw [if_pos e] at h6 ⊢; rw [hz.1]; exact h6
      · rw [if_neg e] at h6 ⊢; exact ⟨hz.1.trans h6.1, h6.2⟩
    · intro B G st Od R hS hL hbd hO hz hR
      rw [Int.toNat_natCast] at hz hR
      have hz := hz (Nat.succ_pos k)
      rw [if_neg (by omega)] at hR
      have key : ∀ G1, St G1 → LSo B F G1 (psh (v : Int) 0 st) (Od ++ ndc L1) → L_252_16 G1 R m_no := by
        intro G1 hS1 l1
        rw [psh_n] at l1
        refine b6 B G1 st _ R hS1 l1 (by omega) (by rw [List.length_append, ndc_len]; omega) hz (fun G2 hS2 l2 => ?_)
        refine hR G2 hS2 ?_
        rw [ndc_app, ← List.append_assoc]
        exact l2
      by_cases e : k = 0
      · rw [if_pos e] at h6
        have e1 := a7 e
        rw [e1, show Od ++ ndc [] = Od from List.append_nil Od] at key
        exact key G hS (by rw [← h6]; exact hL)
      · rw [if_neg e] at h6
        rw [h6.1] at hL
        refine a8 B G st Od R hS hL (by omega) (by omega) (fun _ => Or.inr (by rw [h6.2]; omega)) ?_
        intro G1 hS1 l1
        rw [if_neg e, h6.2] at l1
        exact key G1 hS1 l1
theorem sst_blk {t e : Nat} : sstep s (mk 3 t e) = ([], s.1 :: s.2.1, s.2.2) := by
  unfold sstep
  rw [wo_mk (by decide), if_neg (by decide), if_pos (by decide)]
theorem LBk_of {P : Nat → Nat → Nat → Nat → List Int → Prop} {c : Nat} {W : List Int} (hP : ∀ a b c v W, P a b c v W → a ≤ v ∧ v < b) (hX : ∀ a b c v W, P a b c v W → b ≤ 1600 → LSt F K vf a b v W) (h : Bk P F lo hi c b W) (hh : hi ≤ 1600) : LBk F K vf hi b W := by
  have hr := h.rng hP
  obtain ⟨h1, h2, k, t, e, cl1, y, Ws, h3, h4, h5, h6, h7, rfl⟩ := h
  have g := SLq.rng hP _ _ _ _ _ _ _ h4
  intro s hE
  obtain ⟨L, T, a1, a2, a3, a4, a5, a6, a7, a8⟩ := LBk_list hP hX ([], s.1 :: s.2.1, s.2.2) hE rfl (by omega) k _ _ _ _ _ _ h4 hh (fun _ => rfl)
  have hz : ∀ {st : List Int}, (if k = 0 then st else psh (F 227 y.toNat) 0 st) = st := by
    intro st
    by_cases e : k = 0
    · rw [if_pos e]
    · rw [if_neg e, h5 (by omega), psh_no]
  have fin : sstep (T.reverse, s.1 :: s.2.1, s.2.2) (mk 4 e cl1) = s := by
    unfold sstep
    rw [wo_mk (by decide), if_neg (by decide), if_neg (by decide), if_pos (by decide)]
  refine ⟨L, ⟨[], L, [], rfl, Or.inr (Or.inr (Or.inr (Or.inr (Or.inr (Or.inr (Or.inr (Or.inl ⟨3, t, 0, by decide, rfl, rfl, rfl, rfl⟩))))))), ?_⟩, ?_, a3, a4, a5, fun B G st Od R hS hL hb hO hR => ?_⟩
  · rw [sst_blk]
    have := a1.app _ _ _ _ (L2 := []) (W2 := [mk 4 e cl1]) (ns2 := []) (OM.one (Or.inr (Or.inr (Or.inr (Or.inr (Or.inr (Or.inr (Or.inr (Or.inl ⟨4, e, cl1, by decide, rfl, rfl, rfl, rfl⟩)))))))))
    rwa [List.append_nil] at this
  · show sfo (sstep s (mk 3 t 0)) (Ws ++ [mk 4 e cl1]) = s
    rw [sst_blk, sfo_app, a2]
    exact fin
  · refine a8 B G st Od R hS hL (by omega) (by omega) (fun hk => Or.inl (h5 (by omega))) (fun G1 hS1 l1 => hR G1 hS1 ?_)
    rw [hz] at l1
    exact l1
theorem ir1n {u : Nat} (h : u < 1600) : ir1 (u : Int) := Or.inr ⟨by omega, by omega⟩
theorem Bk_one {P : Nat → Nat → Nat → Nat → List Int → Prop} {c : Nat} {W : List Int} (hP : ∀ a b c v W, P a b c v W → a ≤ v ∧ v < b) (h : Bk P F lo hi c b W) (hh : hi ≤ 1600) : ir1 (F 224 b) := by
  obtain ⟨h1, h2, k, t, e, cl1, y, Ws, h3, h4, h5⟩ := h
  have g := SLq.rng hP _ _ _ _ _ _ _ h4
  unfold ir1
  omega
theorem sst_let {p e : Nat} (hp : p < 256) : sstep s (mk 7 p e) = ((p : Int) :: s.1, s.2) := by
  unfold sstep
  rw [wo_mk (by decide), wt_mk (by decide) hp, if_neg (by decide), if_neg (by decide), if_neg (by decide), if_pos (by decide)]
end M9r
section M9r2
variable {B F G : MF} {K : List Int} {vf v how lo hi b : Nat} {s : SS} {st Od : List Int} {R : MF → Prop} {Bs : List (List Int)}
theorem LSt_of : ∀ (d lo hi c v : Nat) (W : List Int), Sm F K d lo hi c v W → hi ≤ 1600 → LSt F K vf lo hi v W := by
  intro d
  induction d with
  | zero => intro lo hi c v W h; exact absurd h (fun h => h)
  | succ d ih =>
    intro lo hi c v W h hh
    have hr := Sm.rng _ _ _ _ _ _ h
    have ihX : ∀ a b c v W, Sm F K d a b c v W → b ≤ 1600 → LSt F K vf a b v W := fun a b c v W h k => ih a b c v W h k
    -- the node comes behind its expr
    have fin : ∀ {L : List Nat} {st Od : List Int} {R : MF → Prop} {B G : MF}, St G → LSo B F G (st ++ [((4 * v + 2 : Nat) : Int)]) (Od ++ ndc L) → st.length < 3200 → Od.length + L.length < 1600 → (∀ G', St G' → LSo B F G' st (Od ++ ndc (L ++ [v])) → L_252_16 G' R m_no) → L_252_16 G R m_no := by
      intro L st Od R B G hS hL h1 h2 hR
      refine lpop (how := 2) hS hL (by omega) (by decide) h1 (by rw [List.length_append, ndc_len]; exact h2) (fun _ _ _ h => absurd h (by decide)) (fun _ _ _ h => absurd h (by decide)) (fun _ _ _ h => absurd h (by decide)) (fun G1 hS1 l1 _ => ?_)
      refine hR G1 hS1 ?_
      rw [ndc_app, ← List.append_assoc]
      exact l1
    have n0 : ∀ {Od : List Int}, Od ++ ndc [] = Od := fun {Od} => List.append_nil Od
    intro s hE
    rcases h with ⟨o, kd, a, p, e, We, h1, h2, h3, h4, h5, h6, h7, rfl, hp⟩ | ⟨a, h1, h2, h3, h4, rfl⟩ | ⟨a, W', h1, h2, rfl, h222⟩ | ⟨h1, h2, a, b, m, We, W1, h3, ⟨h4, -⟩, h5, h6, h7, h8, h9, h10, h11⟩
    · obtain ⟨u, l1, u1, f, x1, x2, x3, x4, x5, ⟨L, b1, b2, b3, b4, b5, b6⟩, x6, x7⟩ := LX_xp h7 (by omega)
      have eW : sfo s (mk 6 a 0 :: (We ++ [mk o p e])) = sstep s (mk o p e) := by
        show sfo (sstep s (mk 6 a 0)) (We ++ [mk o p e]) = _
        rw [sst_x (by decide) (by decide), sfo_app, b2]
        rfl
      refine ⟨L ++ [v], ⟨[], L ++ [v], [], rfl, Or.inr (Or.inr (Or.inr (Or.inr (Or.inr (Or.inr (Or.inr (Or.inl ⟨6, a, 0, by decide, rfl, rfl, rfl, rfl⟩))))))), ?_⟩, ?_, fun n hn => ?_, nodup_app b4 (nd1 v) (fun a ha b hb => by have := b3 a ha; rw [List.mem_singleton.mp hb]; omega), by rw [List.length_append, List.length_singleton]; omega, fun B G st Od R hS hL hb hO hz hR => ?_⟩
      · rw [sst_x (by decide) (by decide)]
        refine (b1 vf s []).app _ _ _ _ (OM.one ?_)
        exact Or.inr (Or.inr (Or.inr (Or.inr (Or.inr (Or.inl ⟨o, kd, p, e, v, u, f, by omega, rfl, rfl, rfl, h2, h6, x1, x6, by rw [b2]; exact hE, rfl, fun _ => hp⟩)))))
      · rw [eW, h2]
        rcases h1 with h1 | h1
        · rw [h1.1, h1.2, if_pos (by decide), sst_let hp, h6]
        · rw [sst_x (by omega) (by omega), if_neg (by omega)]
      · rcases List.mem_append.mp hn with hn | hn
        · have := b3 n hn; omega
        · rw [List.mem_singleton.mp hn]; omega
      · have pl := psh_len (u := F 227 v) (how := 0) (st := st)
        refine lpop (how := 0) hS hL (by omega) (by decide) (by omega) (by omega) (fun G1 hS1 l1 _ => ?_) (fun _ _ _ h => absurd h (by decide)) (fun _ _ _ h => absurd h (by decide)) (fun _ _ _ h => absurd h (by decide))
        refine CaV.on (s_250 hS1 l1 (by omega) (by omega) h2 x1 rfl hz (fun _ => Or.inr ⟨by omega, by omega⟩) (fun h => by omega)) ?_
        intro G2 hS2 l2
        dsimp only at l2
        rw [if_neg (by omega), if_neg (by omega), if_neg (by omega), psh_n] at l2
        refine b6 B G2 _ _ R hS2 l2 (by rw [snl]; omega) (by omega) (fun G3 hS3 l3 => ?_)
        exact fin hS3 l3 (by omega) (by omega) hR
    · refine ⟨[v], OM.one (Or.inr (Or.inr (Or.inr (Or.inr (Or.inr (Or.inr (Or.inl ⟨a, v, rfl, rfl, h1, rfl, rfl, h4⟩))))))), ?_, fun n hn => ?_, nd1 v, by rw [List.length_singleton]; omega, fun B G st Od R hS hL hb hO hz hR => ?_⟩
      · show sstep s (mk 13 a 0) = _
        rw [sst_x (by decide) (by decide), h1, if_neg (by decide)]
      · rw [List.mem_singleton.mp hn]; omega
      · have pl := psh_len (u := F 227 v) (how := 0) (st := st)
        refine lpop (how := 0) hS hL (by omega) (by decide) (by omega) (by omega) (fun G1 hS1 l1 _ => ?_) (fun _ _ _ h => absurd h (by decide)) (fun _ _ _ h => absurd h (by decide)) (fun _ _ _ h => absurd h (by decide))
        refine CaV.on (s_250 hS1 l1 (by omega) (by omega) h1 rfl rfl hz (fun h => absurd rfl h) (fun h => absurd h (by decide))) ?_
        intro G2 hS2 l2
        dsimp only at l2
        rw [if_pos (Or.inr rfl), if_neg (by decide), if_neg (by decide)] at l2
        exact fin (L := []) hS2 (by rw [n0]; exact l2) (by omega) (by show Od.length + 0 < 1600; omega) hR
    · have hl := LBk_of (vf := vf) (Sm.rng d) ihX h1 hh
      have h1' := h1
      obtain ⟨k3, klo, k, t, e, cl1, y, Ws, k4, k5, k6, k7, k8, k9⟩ := h1'
      have g := SLq.rng (Sm.rng d) _ _ _ _ _ _ _ k5
      have ho := Bk_one (Sm.rng d) h1 hh
      have hEB : EB F vf v (s.1 :: s.2.1) := by
        obtain ⟨d', hE⟩ := hE
        cases d' with
        | zero => exact absurd hE (fun h => h)
        | succ d' =>
          have hE2 := hE
          obtain ⟨b', k', L', r', e1, e2, e3, -⟩ := hE2
          exact Or.inr ⟨v, b', Or.inl ⟨h2, rfl⟩, rfl, e3, by omega, d' + 1, hE⟩
      obtain ⟨L, b1, b2, b3, b4, b5, b6⟩ := hl s hEB
      refine ⟨v :: L, ⟨[v], L, [], rfl, Or.inr (Or.inr (Or.inr (Or.inr (Or.inr (Or.inr (Or.inr (Or.inr ⟨a, v, rfl, rfl, k3, rfl, rfl, h222⟩))))))), ?_⟩, ?_, fun n hn => ?_, ?_, ?_, fun B G st Od R hS hL hb hO hz hR => ?_⟩
      · rw [sst_x (by decide) (by decide)]
        exact b1
      · show sfo (sstep s (mk 6 a 0)) W' = _
        rw [sst_x (by decide) (by decide), b2, k3, if_neg (by decide)]
      · rcases List.mem_cons.mp hn with hn | hn
        · omega
        · have := b3 n hn; omega
      · exact List.nodup_cons.mpr ⟨fun hv => by have := b3 v hv; omega, b4⟩
      · rw [List.length_cons]; omega
      · have pl := psh_len (u := F 227 v) (how := 0) (st := st)
        have pl2 := psh_len (u := F 224 v) (how := 0) (st := psh (F 227 v) 0 st)
        refine lpop (how := 0) hS hL (by omega) (by decide) (by omega) (by omega) (fun G1 hS1 l1 _ => ?_) (fun _ _ _ h => absurd h (by decide)) (fun _ _ _ h => absurd h (by decide)) (fun _ _ _ h => absurd h (by decide))
        refine CaV.on (s_250 hS1 l1 (by omega) (by omega) k3 rfl rfl hz (fun _ => ho) (fun h => absurd h (by decide))) ?_
        intro G2 hS2 l2
        dsimp only at l2
        rw [if_pos (Or.inl rfl), if_neg (by decide), if_pos rfl] at l2
        refine fin (L := []) hS2 (by rw [n0]; exact l2) (by omega) (by show Od.length + 0 < 1600; omega) (fun G3 hS3 l3 => ?_)
        refine b6 B G3 _ _ R hS3 l3 (by omega) (by rw [List.length_append, ndc_len]; show Od.length + 1 + _ ≤ 1600; omega) (fun G4 hS4 l4 => hR G4 hS4 ?_)
        rw [List.append_assoc, ← ndc_app] at l4
        exact l4
    · obtain ⟨u, l1, u1, f, x1, x2, x3, x4, x5, ⟨L, b1, b2, b3, b4, b5, b6⟩, x6, x7⟩ := LX_xp h5 (by omega)
      have g9 := h9.rng (Sm.rng d)
      obtain ⟨b', hb', hblt⟩ : ∃ b' : Nat, F 229 v = (b' : Int) ∧ b' < 1600 := by
        obtain ⟨d', hE⟩ := hE
        cases d' with
        | zero => exact absurd hE (fun h => h)
        | succ d' => obtain ⟨b', k', L', r', e1, e2, e3, -⟩ := hE; exact ⟨b', e3, e2⟩
      have hm : m ≤ hi := by
        rcases h11 with ⟨-, k2, -⟩ | ⟨b2', p2, W2, -, -, -, k4, -, -⟩
        · exact k2
        · have := k4.rng (Sm.rng d); omega
      have hl := LBk_of (vf := vf) (Sm.rng d) ihX h9 (by omega)
      have ho := Bk_one (Sm.rng d) h9 (by omega)
      have eb : ∀ q : Nat, F 226 q = (v : Int) → F 229 q = F 229 v → EB F vf q (s.1 :: s.2.1) := fun q q1 q2 => Or.inr ⟨v, b', Or.inr q1, q2.symm, by rw [q2]; exact hb', by omega, hE⟩
      obtain ⟨L1, c1, c2, c3, c4, c5, c6⟩ := hl s (eb b h7 h8)
      have e225 : (F 225 v).toNat = b := by rw [h6, Int.toNat_natCast]
      have osI : ∀ x : Nat, OSw F K vf s [(u, f)] (mk 11 a x) [v] [] := fun x => Or.inr (Or.inr (Or.inr (Or.inr (Or.inr (Or.inl ⟨11, 10, a, x, v, u, f, by omega, rfl, rfl, rfl, h1, h3, x1, x6, hE, rfl, fun h => absurd rfl h⟩)))))
      have os6 : OSw F K vf s [] (mk 6 a 0) [] [] := Or.inr (Or.inr (Or.inr (Or.inr (Or.inr (Or.inr (Or.inr (Or.inl ⟨6, a, 0, by decide, rfl, rfl, rfl, rfl⟩)))))))
      -- up to the IF
      have om1 : ∀ (x : Nat) (L' : List Nat) (W' : List Int), OM F K vf s [] L' W' [] → OM F K vf s [] (L ++ [v] ++ L') (mk 6 a 0 :: (We ++ mk 11 a x :: W')) [] := by
        intro x L' W' hO
        refine ⟨[], L ++ [v] ++ L', [], rfl, os6, ?_⟩
        rw [sst_x (by decide) (by decide), List.append_assoc]
        refine (b1 vf s []).app _ _ _ _ ?_
        rw [b2]
        refine ⟨[v], L', [], rfl, osI x, ?_⟩
        rw [sst_x (by decide) (by decide)]
        exact hO
      have sf1 : ∀ (x : Nat) (W' : List Int), sfo s W' = s → sfo s (mk 6 a 0 :: (We ++ mk 11 a x :: W')) = ((if F 221 v = 5 then F 222 v :: s.1 else s.1), s.2) := by
        intro x W' hO
        show sfo (sstep s (mk 6 a 0)) (We ++ mk 11 a x :: W') = _
        rw [sst_x (by decide) (by decide), sfo_app, b2, h1, if_neg (by decide)]
        show sfo (sstep s (mk 11 a x)) W' = s
        rw [sst_x (by decide) (by decide)]
        exact hO
      rcases h11 with ⟨k1, k2, rfl⟩ | ⟨q2, p2, W2, ⟨k1, -⟩, k2, k3, k4, k5, rfl⟩
      · refine ⟨L ++ [v] ++ L1, om1 _ _ _ c1, sf1 _ _ c2, fun n hn => ?_, nodup_app (nodup_app b4 (nd1 v) (fun a ha b hb => by have := b3 a ha; rw [List.mem_singleton.mp hb]; omega)) c4 (fun i hi j hj => ?_), ?_, fun B G st Od R hS hL hb hO hz hR => ?_⟩
        · rcases List.mem_append.mp hn with hn | hn
          · rcases List.mem_append.mp hn with hn | hn
            · have := b3 n hn; omega
            · rw [List.mem_singleton.mp hn]; omega
          · have := c3 n hn; omega
        · have := c3 j hj
          rcases List.mem_append.mp hi with hi | hi
          · have := b3 i hi; omega
          · rw [List.mem_singleton.mp hi]; omega
        · rw [List.length_append, List.length_append, List.length_singleton]; omega
        · have pl := psh_len (u := F 227 v) (how := 0) (st := st)
          have pl2 := psh_len (u := F 224 b) (how := 0) (st := psh (F 227 v) 0 st)
          refine lpop (how := 0) hS hL (by omega) (by decide) (by omega) (by omega) (fun G1 hS1 l1 _ => ?_) (fun _ _ _ h => absurd h (by decide)) (fun _ _ _ h => absurd h (by decide)) (fun _ _ _ h => absurd h (by decide))
          refine CaV.on (s_250 hS1 l1 (by omega) (by omega) h1 x1 rfl hz (fun _ => Or.inr ⟨by omega, by omega⟩) (fun _ => ⟨Or.inl k1, by omega, by omega, by rw [e225]; exact ho⟩)) ?_
          intro G2 hS2 l2
          dsimp only at l2
          rw [if_neg (show ¬ ((10 : Int) = 3 ∨ (10 : Int) = 12) by decide), if_pos rfl, if_pos k1, e225, psh_n] at l2
          refine b6 B G2 _ _ R hS2 l2 (by rw [snl]; omega) (by omega) (fun G3 hS3 l3 => ?_)
          refine fin hS3 l3 (by omega) (by omega) (fun G4 hS4 l4 => ?_)
          refine c6 B G4 _ _ R hS4 l4 (by omega) (by rw [List.length_append, ndc_len, List.length_append, List.length_singleton]; omega) (fun G5 hS5 l5 => hR G5 hS5 ?_)
          rw [List.append_assoc, ← ndc_app] at l5
          exact l5
      · have g4 := k4.rng (Sm.rng d)
        have hl2 := LBk_of (vf := vf) (Sm.rng d) ihX k4 hh
        have ho2 := Bk_one (Sm.rng d) k4 hh
        obtain ⟨L2, d1, d2, d3, d4, d5, d6⟩ := hl2 s (eb q2 k2 k3)
        have e226 : (F 226 v).toNat = q2 := by rw [k1, Int.toNat_natCast]
        have om2 : OM F K vf s [] (L1 ++ L2) (W1 ++ mk 12 p2 (c + We.length + 3 + W1.length + W2.length) :: W2) [] := by
          refine c1.app _ _ _ _ ?_
          rw [c2]
          refine ⟨[], L2, [], rfl, Or.inr (Or.inr (Or.inr (Or.inr (Or.inr (Or.inr (Or.inr (Or.inl ⟨12, p2, _, by decide, rfl, rfl, rfl, rfl⟩))))))), ?_⟩
          rw [sst_x (by decide) (by decide)]
          exact d1
        have sf2 : sfo s (W1 ++ mk 12 p2 (c + We.length + 3 + W1.length + W2.length) :: W2) = s := by
          rw [sfo_app, c2]
          show sfo (sstep s (mk 12 p2 _)) W2 = s
          rw [sst_x (by decide) (by decide)]
          exact d2
        refine ⟨L ++ [v] ++ (L1 ++ L2), om1 _ _ _ om2, sf1 _ _ sf2, fun n hn => ?_, nodup_app (nodup_app b4 (nd1 v) (fun a ha b hb => by have := b3 a ha; rw [List.mem_singleton.mp hb]; omega)) (nodup_app c4 d4 (fun i hi j hj => by have := c3 i hi; have := d3 j hj; omega)) (fun i hi j hj => ?_), ?_, fun B G st Od R hS hL hb hO hz hR => ?_⟩
        · rcases List.mem_append.mp hn with hn | hn
          · rcases List.mem_append.mp hn with hn | hn
            · have := b3 n hn; omega
            · rw [List.mem_singleton.mp hn]; omega
          · rcases List.mem_append.mp hn with hn | hn
            · have := c3 n hn; omega
            · have := d3 n hn; omega
        · have hjr : v < j := by
            rcases List.mem_append.mp hj with hj | hj
            · have := c3 j hj; omega
            · have := d3 j hj; omega
          rcases List.mem_append.mp hi with hi | hi
          · have := b3 i hi; omega
          · rw [List.mem_singleton.mp hi]; omega
        · rw [List.length_append, List.length_append, List.length_append, List.length_singleton]; omega
        · have pl := psh_len (u := F 227 v) (how := 0) (st := st)
          have pl2 := psh_len (u := F 224 q2) (how := 0) (st := psh (F 227 v) 0 st)
          have pl3 := psh_len (u := F 224 b) (how := 0) (st := psh (F 224 q2) 0 (psh (F 227 v) 0 st))
          refine lpop (how := 0) hS hL (by omega) (by decide) (by omega) (by omega) (fun G1 hS1 l1 _ => ?_) (fun _ _ _ h => absurd h (by decide)) (fun _ _ _ h => absurd h (by decide)) (fun _ _ _ h => absurd h (by decide))
          refine CaV.on (s_250 hS1 l1 (by omega) (by omega) h1 x1 rfl hz (fun _ => Or.inr ⟨by omega, by omega⟩) (fun _ => ⟨Or.inr ⟨by omega, by omega, by rw [e226]; exact ho2⟩, by omega, by omega, by rw [e225]; exact ho⟩)) ?_
          intro G2 hS2 l2
          dsimp only at l2
          rw [if_neg (show ¬ ((10 : Int) = 3 ∨ (10 : Int) = 12) by decide), if_pos rfl, if_neg (show ¬ F 226 v = -1 by omega), e225, e226, psh_n] at l2
          refine b6 B G2 _ _ R hS2 l2 (by rw [snl]; omega) (by omega) (fun G3 hS3 l3 => ?_)
          refine fin hS3 l3 (by omega) (by omega) (fun G4 hS4 l4 => ?_)
          refine c6 B G4 _ _ R hS4 l4 (by omega) (by rw [List.length_append, ndc_len, List.length_append, List.length_singleton]; omega) (fun G5 hS5 l5 => ?_)
          refine d6 B G5 _ _ R hS5 l5 (by omega) (by rw [List.length_append, List.length_append, ndc_len, ndc_len, List.length_append, List.length_singleton]; omega) (fun G6 hS6 l6 => hR G6 hS6 ?_)
          rw [List.append_assoc, List.append_assoc, ← ndc_app, ← ndc_app] at l6
          exact l6
end M9r2
