/-! THE ORDER OF NODES, OF THE REFERENCE -/
def psh (u : Int) (how : Nat) (st : List Int) : List Int := if u = -1 then st else st ++ [4 * u + (how : Int)]
/-- a stack of nodes and an order, laid behind reading -/
def LSq (F G : MF) (st Od : List Int) : Prop := (∀ c, c ≠ 201 → c ≠ 251 → c ≠ 252 → G c = F c) ∧ (∀ j, j ≠ 71 → j ≠ 73 → G 201 j = F 201 j) ∧ (G 201 73 = (st.length : Int) ∧ AL (G 252) st) ∧ (G 201 71 = (Od.length : Int) ∧ AL (G 251) Od)
/-- the same, over nodes -/
def LSo (B F G : MF) (st Od : List Int) : Prop := LSq B G st Od ∧ ∀ c, 221 ≤ c → c ≤ 229 → B c = F c
def ArC (F : MF) : Int → List (Nat × Int) → Int → Prop
  | x, [], z => x = z
  | x, a :: r, z => x = (a.1 : Int) ∧ F 223 a.1 = a.2 ∧ ArC F (F 227 a.1) r z
/-- from a node on to a statement: the tokens of the LETs on the way -/
def LtC (F : MF) : Nat → Int → Nat → List Int → Prop
  | 0, x, v, L => x = (v : Int) ∧ L = []
  | k + 1, x, v, L => ∃ (u : Nat) (L' : List Int), x = (u : Int) ∧ u < v ∧ L = (if F 221 u = 5 then [F 222 u] else []) ++ L' ∧ LtC F k (F 227 u) v L'
/-- what is declared ahead of a statement, block by block, the innermost first, the last one first; vf the function -/
def Env (F : MF) (vf : Nat) : Nat → Nat → List (List Int) → Prop
  | 0, _, _ => False
  | d + 1, v, Bs => ∃ (b k : Nat) (L : List Int) (r : List (List Int)), v < 1600 ∧ b < 1600 ∧ F 229 v = (b : Int) ∧ LtC F k (F 224 b) v L ∧ Bs = L.reverse :: r ∧
    ((F 229 b = -1 ∧ F 226 b = (vf : Int) ∧ r = [[]]) ∨ ∃ h b' : Nat, (F 226 b = -1 ∧ h = b ∨ F 226 b = (h : Int)) ∧ F 229 h = F 229 b ∧ F 229 b = (b' : Int) ∧ h < 1600 ∧ Env F vf d h r)
def EB (F : MF) (vf b : Nat) (Bs : List (List Int)) : Prop := (F 229 b = -1 ∧ F 226 b = (vf : Int) ∧ Bs = [[]]) ∨ ∃ h b' : Nat, (F 226 b = -1 ∧ h = b ∨ F 226 b = (h : Int)) ∧ F 229 h = F 229 b ∧ F 229 b = (b' : Int) ∧ h < 1600 ∧ ∃ d, Env F vf d h Bs
/-- one word: the nodes that wait, with their first tokens; the node that comes to the order -/
def OSw (F : MF) (K : List Int) (vf : Nat) (s : SS) (ns : List (Nat × Int)) (w : Int) (L : List Nat) (ns' : List (Nat × Int)) : Prop :=
  (∃ p n : Nat, w = mk 14 p 0 ∧ L = [n] ∧ F 221 n = 13 ∧ F 222 n = (p : Int) ∧ ns' = (n, (p : Int)) :: ns) ∨
  (∃ (p n u : Nat) (f : Int) (r : List (Nat × Int)), w = mk 16 p 0 ∧ L = [n] ∧ ns = (u, f) :: r ∧ F 221 n = 16 ∧ F 222 n = (p : Int) ∧ F 224 n = (u : Int) ∧ F 223 u = f ∧ ns' = (n, (p : Int)) :: r) ∨
  (∃ (p n u v : Nat) (f f2 : Int) (r : List (Nat × Int)), w = mk 17 p 0 ∧ L = [n] ∧ ns = (v, f2) :: (u, f) :: r ∧ F 221 n = 30 ∧ F 222 n = kn K p ∧ F 224 n = (u : Int) ∧ F 225 n = (v : Int) ∧ F 223 u = f ∧ F 223 v = f2 ∧ ns' = (n, f) :: r) ∨
  (∃ (o e u : Nat) (f : Int) (r : List (Nat × Int)), w = mk 18 o e ∧ L = [] ∧ ns = (u, f) :: r ∧ ns' = (u, (o : Int)) :: r) ∨
  (∃ (p n : Nat) (as r : List (Nat × Int)), w = mk 15 p as.length ∧ L = [n] ∧ ns = as ++ r ∧ F 221 n = 14 ∧ F 222 n = (p : Int) ∧ ArC F (F 224 n) as.reverse (-1) ∧ ns' = (n, (p : Int)) :: r ∧ p < 256) ∨
  (∃ (o kd p e n u : Nat) (f : Int), ((kd = 5 ∧ o = 7) ∨ (kd = 6 ∧ o = 8) ∨ (kd = 7 ∧ o = 9) ∨ (kd = 9 ∧ o = 10) ∨ (kd = 10 ∧ o = 11)) ∧ w = mk o p e ∧ L = [n] ∧ ns = [(u, f)] ∧ F 221 n = (kd : Int) ∧ F 222 n = (p : Int) ∧ F 224 n = (u : Int) ∧ F 223 u = f ∧ (∃ d, Env F vf d n (s.1 :: s.2.1)) ∧ ns' = [] ∧ (o ≠ 11 → p < 256)) ∨
  (∃ a n : Nat, w = mk 13 a 0 ∧ L = [n] ∧ F 221 n = 12 ∧ ns = [] ∧ ns' = [] ∧ F 222 n = (a : Int)) ∨
  (∃ o t e : Nat, ((3 ≤ o ∧ o ≤ 6) ∨ o = 12) ∧ w = mk o t e ∧ L = [] ∧ ns = [] ∧ ns' = []) ∨
  (∃ a n : Nat, w = mk 6 a 0 ∧ L = [n] ∧ F 221 n = 3 ∧ ns = [] ∧ ns' = [] ∧ F 222 n = (a : Int))
def OM (F : MF) (K : List Int) (vf : Nat) : SS → List (Nat × Int) → List Nat → List Int → List (Nat × Int) → Prop
  | _, ns, L, [], ns' => L = [] ∧ ns' = ns
  | s, ns, L, w :: W, ns' => ∃ (L1 L2 : List Nat) (ns1 : List (Nat × Int)), L = L1 ++ L2 ∧ OSw F K vf s ns w L1 ns1 ∧ OM F K vf (sstep s w) ns1 L2 W ns'
def sfo (s : SS) (W : List Int) : SS := W.foldl sstep s
def ndc (L : List Nat) : List Int := L.map (fun n : Nat => (n : Int))
section M9p
variable {B F G : MF} {K : List Int} {vf v how lo hi : Nat} {s : SS} {st Od : List Int} {R : MF → Prop} {ns ns1 ns2 : List (Nat × Int)} {L1 L2 : List Nat} {W1 W2 W : List Int}
theorem OM.app : ∀ (W1 : List Int) (s : SS) (ns : List (Nat × Int)) (L1 : List Nat), OM F K vf s ns L1 W1 ns1 → OM F K vf (sfo s W1) ns1 L2 W2 ns2 → OM F K vf s ns (L1 ++ L2) (W1 ++ W2) ns2
  | [], s, ns, L1, h, k => by
    obtain ⟨rfl, rfl⟩ := h
    exact k
  | w :: W1, s, ns, L1, h, k => by
    obtain ⟨La, Lb, nm, rfl, h2, h3⟩ := h
    exact ⟨La, Lb ++ L2, nm, by rw [List.append_assoc], h2, OM.app W1 _ _ _ h3 k⟩
theorem OM.one {w : Int} {L : List Nat} (h : OSw F K vf s ns w L ns1) : OM F K vf s ns L [w] ns1 := ⟨L, [], ns1, (List.append_nil L).symm, h, rfl, rfl⟩
theorem sfo_app : sfo s (W1 ++ W2) = sfo (sfo s W1) W2 := List.foldl_append
theorem sst_x {o t e : Nat} (ho : o < 256) (h : o ≠ 2 ∧ o ≠ 3 ∧ o ≠ 4 ∧ o ≠ 7) : sstep s (mk o t e) = s := by
  unfold sstep
  rw [wo_mk ho, if_neg (by omega), if_neg (by omega), if_neg (by omega), if_neg (by omega)]
theorem ArC.snoc : ∀ (l : List (Nat × Int)) (x z : Int) (a : Nat × Int), ArC F x l (a.1 : Int) → F 223 a.1 = a.2 → z = F 227 a.1 → ArC F x (l ++ [a]) z
  | [], x, z, a, h, h2, h3 => ⟨h, h2, h3.symm⟩
  | b :: l, x, z, a, h, h2, h3 => ⟨h.1, h.2.1, ArC.snoc l _ z a h.2.2 h2 h3⟩
theorem LtC.snoc {v u : Nat} (hu : u < v) (h2 : F 227 u = (v : Int)) : ∀ (k : Nat) (x : Int) (L : List Int), LtC F k x u L → LtC F (k + 1) x v (L ++ (if F 221 u = 5 then [F 222 u] else []))
  | 0, x, L, ⟨h3, h4⟩ => by
    subst h4
    exact ⟨u, [], h3, hu, by rw [List.nil_append, List.append_nil], h2, rfl⟩
  | k + 1, x, L, ⟨u', L', h3, h4, h5, h6⟩ => ⟨u', L' ++ (if F 221 u = 5 then [F 222 u] else []), h3, by omega, by rw [h5, List.append_assoc], LtC.snoc hu h2 k _ _ h6⟩
theorem s_249 {u : Int} (hS : St G) (h : LSo B F G st Od) (hu : u = -1 ∨ (0 ≤ u ∧ u < 1600)) (hh : how < 4) (hst : st.length < 3200) : C_249 u (how : Int) G (fun G' => LSo B F G' (psh u how st) Od) m_no := by
  obtain ⟨⟨h1, h2, ⟨h3, h4⟩, h5⟩, hN⟩ := h
  refine c_249 hS ⟨fun e => ?_, fun e => ?_⟩
  · unfold psh
    rw [if_pos e]
    exact ⟨⟨h1, h2, ⟨h3, h4⟩, h5⟩, hN⟩
  · unfold psh
    rw [if_neg e, h3, Int.toNat_natCast]
    refine ⟨by omega, by omega, by omega, by omega, ⟨fun c x y z => ?_, fun j x y => ?_, ⟨?_, ?_⟩, ?_, ?_⟩, hN⟩
    · rw [up_row x, up_row z]; exact h1 c x y z
    · rw [u_ne (Or.inr y), u_ne (Or.inl (by decide))]; exact h2 j x y
    · rw [u_eq, List.length_append, List.length_singleton]; omega
    · rw [up_row (by decide)]
      exact AL.up1 h4
    · rw [u_ne (Or.inr (by decide)), u_ne (Or.inl (by decide))]; exact h5.1
    · rw [up_row (by decide), up_row (by decide)]; exact h5.2
/-- the uppermost one is taken -/
theorem lpop {u : Nat} (hS : St G) (h : LSo B F G (st ++ [((4 * u + how : Nat) : Int)]) Od) (hu : u < 1600) (hh : how < 4) (hst : st.length < 3200) (hO : Od.length < 1600)
    (h0 : ∀ G1, St G1 → LSo B F G1 st Od → how = 0 → C_250 (u : Int) G1 (fun G2 => L_252_16 G2 R m_no) m_no) (h1 : ∀ G1, St G1 → LSo B F G1 st Od → how = 1 → C_251 (u : Int) G1 (fun G2 => L_252_16 G2 R m_no) m_no)
    (h3 : ∀ G1, St G1 → LSo B F G1 st Od → how = 3 → C_249 (F 227 u) 3 G1 (fun G2 => C_249 (u : Int) 1 G2 (fun G3 => L_252_16 G3 R m_no) m_no) m_no) (h2 : ∀ G1, St G1 → LSo B F G1 st (Od ++ [(u : Int)]) → how = 2 → L_252_16 G1 R m_no) : L_252_16 G R m_no := by
  obtain ⟨⟨a1, a2, ⟨a3, a4⟩, a5, a6⟩, hN⟩ := h
  have hl : G 201 73 = ((st.length + 1 : Nat) : Int) := by rw [a3, List.length_append, List.length_singleton]
  have hv : G 252 st.length = ((4 * u + how : Nat) : Int) := by
    rw [a4 st.length (by rw [List.length_append, List.length_singleton]; omega), gx_app, if_neg (by omega), Nat.sub_self]
    rfl
  obtain ⟨G1, d1⟩ : ∃ G1, G1 = m_up G 201 73 (st.length : Int) := ⟨_, rfl⟩
  have hS1 : St G1 := by rw [d1]; exact hS.fld kd_201 rk_12_73
  have hL : LSo B F G1 st Od := by
    rw [d1]
    refine ⟨⟨fun c x y z => by rw [up_row x]; exact a1 c x y z, fun j x y => by rw [u_ne (Or.inr y)]; exact a2 j x y, ⟨u_eq, ?_⟩, by rw [u_ne (Or.inr (by decide))]; exact a5, by rw [up_row (by decide)]; exact a6⟩, hN⟩
    rw [up_row (by decide)]
    exact a4.pre
  refine b_252_16 hS ?_
  rw [hl, show ((st.length + 1 : Nat) : Int) - 1 = (st.length : Int) by omega, Int.toNat_natCast, hv, ← d1, show (((4 * u + how : Nat) : Int)) / 4 = (u : Int) by omega, show (((4 * u + how : Nat) : Int)) % 4 = (how : Int) by omega, Int.toNat_natCast]
  refine ⟨fun _ => ⟨by omega, by omega, by omega, by omega, by omega, fun e => h0 G1 hS1 hL (by omega), fun e0 => ⟨fun e => h1 G1 hS1 hL (by omega), fun e1 => ⟨fun e => ⟨by omega, ?_⟩, fun e3 => ?_⟩⟩⟩, fun h => absurd (by omega) h⟩
  · have := h3 G1 hS1 hL (by omega)
    rw [a1 227 (by decide) (by decide) (by decide), hN 227 (by decide) (by decide)]
    exact this
  · rw [a5, Int.toNat_natCast]
    refine ⟨by omega, by omega, ?_⟩
    refine h2 _ ((hS1.arr kd_251 (by decide)).fld kd_201 rk_12_71) ?_ (by omega)
    obtain ⟨⟨b1, b2, ⟨b3, b4⟩, b5, b6⟩, -⟩ := hL
    refine ⟨⟨fun c x y z => by rw [up_row x, up_row y]; exact b1 c x y z, fun j x y => by rw [u_ne (Or.inr x), u_ne (Or.inl (by decide))]; exact b2 j x y, ⟨by rw [u_ne (Or.inr (by decide)), u_ne (Or.inl (by decide))]; exact b3, by rw [up_row (by decide), up_row (by decide)]; exact b4⟩, ?_, ?_⟩, hN⟩
    · rw [u_eq, List.length_append, List.length_singleton]; omega
    · rw [up_row (by decide)]
      exact AL.up1 b6
theorem LSo.nd (h : LSo B F G st Od) {c : Nat} (h1 : 221 ≤ c) (h2 : c ≤ 229) (_ : True) : G c = F c := (h.1.1 c (by omega) (by omega) (by omega)).trans (h.2 c h1 h2)
theorem psh_n {u : Nat} : psh (u : Int) how st = st ++ [((4 * u + how : Nat) : Int)] := by
  unfold psh
  rw [if_neg (by omega)]
  congr 2
/-- an expr is opened -/
theorem s_251 {kk : Int} {one two : Int} (hS : St G) (h : LSo B F G st Od) (hv : v < 1600) (hst : st.length + 3 < 3200) (e1 : F 221 v = kk) (e2 : F 224 v = one) (e3 : F 225 v = two) (h1 : one = -1 ∨ (0 ≤ one ∧ one < 1600)) (h2 : kk ≠ 14 → two = -1 ∨ (0 ≤ two ∧ two < 1600)) :
    C_251 (v : Int) G (fun G' => LSo B F G' (if kk = 14 then psh one 3 (st ++ [((4 * v + 2 : Nat) : Int)]) else psh one 1 (psh two 1 (st ++ [((4 * v + 2 : Nat) : Int)]))) Od) m_no := by
  refine c_251 hS ?_
  refine CaV.on (s_249 (how := 2) (u := (v : Int)) hS h (Or.inr ⟨by omega, by omega⟩) (by decide) (by omega)) ?_
  intro G1 hS1 l1
  rw [psh_n] at l1
  rw [Int.toNat_natCast, l1.nd (c := 221) (by decide) (by decide) (by decide), l1.nd (c := 224) (by decide) (by decide) (by decide), l1.nd (c := 225) (by decide) (by decide) (by decide), e1, e2, e3]
  have l0 : (st ++ [((4 * v + 2 : Nat) : Int)]).length = st.length + 1 := by rw [List.length_append, List.length_singleton]
  refine ⟨by omega, fun e => ⟨by omega, ?_⟩, fun e => ⟨by omega, ?_⟩⟩
  · rw [if_pos e]
    exact s_249 (how := 3) hS1 l1 h1 (by decide) (by omega)
  · rw [if_neg e]
    refine CaV.on (s_249 (how := 1) hS1 l1 (h2 e) (by decide) (by omega)) ?_
    intro G2 hS2 l2
    rw [l2.nd (c := 224) (by decide) (by decide) (by decide), e2]
    refine ⟨by omega, ?_⟩
    exact s_249 (how := 1) hS2 l2 h1 (by decide) (by unfold psh; split <;> simp only [List.length_append, List.length_singleton] <;> omega)
/-- an expr is laid -/
def LX (F : MF) (K : List Int) (lo hi v : Nat) (W : List Int) (f : Int) : Prop := ∃ L : List Nat, (∀ vf s ns, OM F K vf s ns L W ((v, f) :: ns)) ∧ (∀ s, sfo s W = s) ∧ (∀ n ∈ L, lo ≤ n ∧ n < hi) ∧ L.Nodup ∧ L.length ≤ hi - lo ∧
  ∀ (B G : MF) (st Od : List Int) (R : MF → Prop), St G → LSo B F G (st ++ [((4 * v + 1 : Nat) : Int)]) Od → st.length + 2 * (hi - lo) + 3 ≤ 3200 → Od.length + (hi - lo) ≤ 1600 → (∀ G', St G' → LSo B F G' st (Od ++ ndc L) → L_252_16 G' R m_no) → L_252_16 G R m_no
theorem ndc_app : ndc (L1 ++ L2) = ndc L1 ++ ndc L2 := List.map_append
theorem ndc_len : (ndc L1).length = L1.length := List.length_map ..
theorem nodup_app {l m : List Nat} (h : l.Nodup) (k : m.Nodup) (hd : ∀ a ∈ l, ∀ b ∈ m, a ≠ b) : (l ++ m).Nodup := List.nodup_append.mpr ⟨h, k, hd⟩
def LA (F : MF) (k lo hi : Nat) (x y : Int) (W : List Int) : Prop := ∃ (L : List Nat) (as : List (Nat × Int)), as.length = k ∧ (∀ vf s ns, OM F K vf s ns L W (as ++ ns)) ∧ (k = 0 ∧ as = [] ∨ 0 < k ∧ ArC F x as.reverse (F 227 y.toNat)) ∧ (∀ s, sfo s W = s) ∧ (∀ n ∈ L, lo ≤ n ∧ n < hi) ∧ L.Nodup ∧ L.length ≤ hi - lo ∧
  ∀ (B G : MF) (st Od : List Int) (R : MF → Prop), St G → LSo B F G (psh x 3 st) Od → st.length + 2 * (hi - lo) + 4 ≤ 3200 → Od.length + (hi - lo) ≤ 1600 → (∀ G', St G' → LSo B F G' (if k = 0 then st else psh (F 227 y.toNat) 3 st) (Od ++ ndc L) → L_252_16 G' R m_no) → L_252_16 G R m_no
end M9p
