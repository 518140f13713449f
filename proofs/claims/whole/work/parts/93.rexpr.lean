/-! READING, OF THE REFERENCE: readExpr -/
section M93
variable {F F' : MF} {K : List Int} {n0 N a0 a : Nat} {C0 C : List Int} {l : Lv} {r L : List Lv}
def TE (n0 : Nat) (F F' : MF) : Prop := Cz n0 F F' ∧ (∀ j, j ≠ 26 → j ≠ 27 → j ≠ 51 → j ≠ 53 → j ≠ 54 → j ≠ 58 → j ≠ 59 → j ≠ 60 → j ≠ 63 → F' 201 j = F 201 j)
theorem TG.te (h : TG n0 F F') : TE n0 F F' := ⟨h.1, fun j a b c d e f _ g i => h.2 j a b c d e f g i⟩
theorem TE.tr {F1 : MF} (h : TE n0 F F1) (k : TE n0 F1 F') : TE n0 F F' := ⟨h.1.tr k.1, fun j a b c d e f g i x => (k.2 j a b c d e f g i x).trans (h.2 j a b c d e f g i x)⟩
/-- what stands behind an expr -/
def XE (K : List Int) (n0 a0 : Nat) (C0 : List Int) (F : MF) (y : XS) (F' : MF) : Prop := TE n0 F F' ∧ F' 201 26 = (y.2.1 : Int) ∧ (y.1 ≠ 3 → F' 201 58 = 1) ∧
  ∃ N' : Nat, F' 201 27 = (N' : Int) ∧ n0 ≤ N' ∧ N' + a0 ≤ n0 + y.2.1 ∧ (y.1 = 3 → F' 201 58 = 0 ∧ ∃ (v : Nat) (W : List Int) (f : Int), F' 201 59 = (v : Int) ∧ Rpe F' K n0 N' v W f ∧ F' 223 v = f ∧ F' 227 v = -1 ∧ y.2.2.2 = C0 ++ W)
theorem XE.pre {F1 : MF} {y : XS} (h : TE n0 F F1) (k : XE K n0 a0 C0 F1 y F') : XE K n0 a0 C0 F y F' := ⟨h.tr k.1, k.2⟩
theorem up_self {c i : Nat} {v : Int} (h : F c i = v) : m_up F c i v = F := by
  funext x j
  by_cases e : x = c ∧ j = i
  · rw [e.1, e.2, u_eq, h]
  · rw [u_ne (by omega)]
theorem EW.cn (h : EW F K n0 C0 (l :: r) a N C) : F 201 51 = ((PQs r + r.length + pq l : Nat) : Int) ∧ F 201 53 = ((PQs r + pq l : Nat) : Int) ∧ n0 ≤ N ∧ ((r = [] ∧ shp l = 0) ∨ (r ≠ [] ∧ (shp l = 1 ∨ shp l = 2))) := by
  obtain ⟨⟨s0, q0, lo0, W0, s, q, h1, h2, h3, h4⟩, -⟩ := h
  have c := LvB.cnt _ _ _ _ _ h1
  change s0 = PQs r + r.length ∧ q0 = PQs r at c
  have g := PE.rng _ _ _ _ _ h2
  have e : (pl (hdl (l :: r))).length = pq l := pl_pq
  rw [e] at g
  have b := (LvB.rng _ _ _ _ _ h1).1
  refine ⟨by rw [h3]; omega, by rw [h4]; omega, by omega, h1.sh⟩
theorem EHs.cn (h : EHs F K n0 C0 (l :: r) a N C) : (∀ s1 q1 lo1 W1, LvB F K n0 C0 (l :: r) s1 q1 lo1 W1 → s1 = PQs r + r.length ∧ q1 = PQs r) ∧ n0 ≤ N ∧ ((r = [] ∧ shp l = 0) ∨ (r ≠ [] ∧ (shp l = 1 ∨ shp l = 2))) ∧ F 201 27 = (N : Int) := by
  obtain ⟨⟨s0, q0, lo0, W0, h1, m, W, Wt, f, h2, h3, -, h4, -⟩, -⟩ := h
  have g := PE.rng _ _ _ _ _ h2
  have b := (LvB.rng _ _ _ _ _ h1).1
  have t := h3.rng
  exact ⟨fun s1 q1 lo1 W1 k => LvB.cnt _ _ _ _ _ k, by omega, h1.sh, h4⟩
/-- the exprs whose levels are known: a unit is due, or behind a unit -/
def JW (K : List Int) (n0 a0 a N : Nat) (L : List Lv) : Prop := JS K a0 a L ∧ N + PNs L + a0 ≤ n0 + a ∧ JB K a (hdl L)
def JH (K : List Int) (n0 a0 a N : Nat) (L : List Lv) : Prop := JS K a0 a L ∧ N + PH L + a0 ≤ n0 + a
theorem JS.nt (h : JS K a0 a L) : -1 ≤ nts (hdl L) := by
  cases L with
  | nil => exact Int.le_refl _
  | cons x y => exact (h.1 x List.mem_cons_self).1.2.2.2
theorem JS.tl (h : JS K a0 a (l :: r)) : JS K a0 a r := ⟨fun x hx => h.1 x (List.mem_cons_of_mem _ hx), by have : PQs (l :: r) + (l :: r).length + a0 ≤ a + 1 := h.2; change pq l + PQs r + (r.length + 1) + a0 ≤ a + 1 at this; omega⟩
theorem JW.tb (hQ : SQ F K) (h : EW F K n0 C0 (l :: r) a N C) (hJ : JW K n0 a0 a N (l :: r)) (ha : a ≤ K.length) (hK : K.length ≤ 195) (hn : n0 + K.length + 10 < 1600 + a0) : TB F K n0 N a C0 l r := by
  obtain ⟨hS, h2, h3⟩ := hJ
  obtain ⟨c1, c2, c3, c4⟩ := h.cn
  have hc : pq l + PQs r + (r.length + 1) + a0 ≤ a + 1 := hS.2
  have hl := hS.1 l List.mem_cons_self
  refine ⟨hQ, ha, hK, by omega, by omega, hl.1.2.2.2, hS.tl.nt, hl.2.1, fun s e => ?_, fun q e => ?_, fun e1 e2 => (h3 e1).2 e2⟩
  · rw [c1] at e; omega
  · rw [c2] at e; omega
theorem JH.gb (h : EHs F K n0 C0 (l :: r) a N C) (hJ : JH K n0 a0 a N (l :: r)) (ha : a ≤ K.length) (hK : K.length ≤ 195) (hn : n0 + K.length + 10 < 1600 + a0) : GB F K n0 N a C0 l r := by
  obtain ⟨hS, h2⟩ := hJ
  have hc : pq l + PQs r + (r.length + 1) + a0 ≤ a + 1 := hS.2
  have hl := hS.1 l List.mem_cons_self
  refine ⟨hl.1, by omega, by omega, by omega, fun s1 q1 lo1 W1 k => ?_⟩
  have := h.cn.1 _ _ _ _ k
  omega
theorem l_fail {x1 x2 : Int} {R : MF → Prop} (hS : St F) (h : F 201 58 = 1) (hR : R F) : L_233_39 x1 x2 F R m_no := by
  refine b_233_39 hS ?_
  rw [h]
  exact ⟨fun _ => ⟨fun e => absurd e (by decide), fun _ => hR⟩, fun _ => ⟨fun e => absurd e (by decide), fun _ => hR⟩⟩
/-- the last signs are coupled -/
theorem l_end {x1 x2 : Int} (hS : St F) (h : EHs F K n0 C0 [l] a N C) (hJ : JH K n0 a0 a N [l]) (ha : a ≤ K.length) (hK : K.length ≤ 195) (hn : n0 + K.length + 10 < 1600 + a0) (h63 : F 201 63 = 1) {L' : List Lv} :
    L_233_39 x1 x2 F (XE K n0 a0 C0 F (3, a, L', C ++ wd 16 (nts l) ++ (wd 17 (tms l) ++ wd 17 (ads l) ++ wd 17 (cps l)))) m_no := by
  have hB := hJ.gb h ha hK hn
  obtain ⟨c1, c2, -, c4⟩ := h.cn
  have hJ2 : N + (pq l + 0) + a0 ≤ n0 + a := hJ.2
  obtain ⟨⟨s1, q1, lo1, W1, h1, h2⟩, h3, h4, h5, h6⟩ := h
  obtain ⟨-, ⟨-, -, rfl, rfl, rfl, rfl⟩ | ⟨s1', q1', lo1', s2', m', W1', W2', hx, -⟩⟩ := h1
  · change QE F K 0 0 lo1 W1 (pl l) N (C ++ wd 16 (nts l)) at h2
    have hlen := pl_len (l := l)
    have ep := pl_pq (l := l)
    refine b_233_39 hS ?_
    rw [h63, h6]
    refine ⟨fun e => absurd e (by decide), fun _ => ⟨fun _ => ?_, fun e => absurd rfl e⟩⟩
    refine CaV.on (s_225 (s0 := 0) (q0 := 0) (ps := []) (Int.le_refl 1) (fun p r h => by cases h) (by decide) (by decide) (by decide) (pl l) F N _ hS (by omega) (by omega) (pl_rk hB.1) (fun h0 => absurd h0 (by decide)) (by rw [List.append_nil]; exact h2)) ?_
    rintro F1 hS1 ⟨k1, k2⟩
    rw [pl_wd hB.1] at k1
    obtain ⟨m', W', Wt, f', p1, p2, p3, p4, p5, p6⟩ := k1
    obtain ⟨-, -, rfl, rfl⟩ := p1
    change Top F1 K 0 m' _ Wt f' at p2
    obtain ⟨v, v1, v2, v3, v4⟩ := p2
    obtain ⟨F2, d2⟩ : ∃ F2, F2 = m_up F1 201 59 (F1 239 (0 : Int).toNat) := ⟨_, rfl⟩
    rw [← d2]
    have z : ∀ c, c ≠ 201 → F2 c = F1 c := fun c hc => by rw [d2, up_row hc]
    have w : ∀ j, j ≠ 59 → F2 201 j = F1 201 j := fun j hj => by rw [d2, u_ne (Or.inr hj)]
    have ag : ∀ M, Agf F1 F2 M := fun M c i x y _ => by rw [z c (by omega)]
    refine ⟨⟨⟨(k2.2.1.le c2).tr (ag _) (Nat.le_refl _), fun c hc => ?_⟩, fun j x1 x2 x3 x4 x5 x6 x7 x8 x9 => ?_⟩, ?_, fun e => absurd rfl e, N + (pl l).length, ?_, by omega, by show N + (pl l).length + a0 ≤ m' + a; omega, fun _ => ⟨?_, v, Wt, f', ?_, v4.cong ((ag _).ag (Nat.le_refl _)), ?_, ?_, p3⟩⟩
    · rw [z c (fun e => hc (Or.inl e)), k2.2.2.2 c (fun e => hc (by omega))]
    · rw [w j x7, k2.1 j x2 x3 x4]
    · rw [w 26 (by decide), k2.1 26 (by decide) (by decide) (by decide)]; exact h5
    · rw [w 27 (by decide)]; exact p4
    · rw [w 58 (by decide), k2.1 58 (by decide) (by decide) (by decide)]; exact h6
    · rw [d2, u_eq]; exact v1
    · rw [z 223 (by decide)]; exact v2
    · rw [z 227 (by decide)]; exact v3
  · exact absurd hx (fun h => h)
theorem EHs.up {x : Int} (h : EHs F K n0 C0 L a N C) : EHs (m_up F 201 63 x) K n0 C0 L a N C := by
  have z : ∀ c, c ≠ 201 → m_up F 201 63 x c = F c := fun c hc => up_row hc
  have w : ∀ j, j ≠ 63 → m_up F 201 63 x 201 j = F 201 j := fun j hj => u_ne (Or.inr hj)
  obtain ⟨⟨s1, q1, lo1, W1, u1, m, W, Wt, f, u2, u3, u4, u5, u6, u7⟩, h3, h4, h5, h6⟩ := h
  exact ⟨⟨s1, q1, lo1, W1, u1.z z, m, W, Wt, f, u2.z z, u3.cong (by rw [z 239 (by decide)]) (fun c i x y _ => by rw [z c (by omega)]), u4, (w 27 (by decide)).trans u5, (w 51 (by decide)).trans u6, (w 53 (by decide)).trans u7⟩,
    (w 54 (by decide)).trans h3, (w 60 (by decide)).trans h4, (w 26 (by decide)).trans h5, (w 58 (by decide)).trans h6⟩
theorem TE.up63 {x : Int} : TE n0 F (m_up F 201 63 x) := ⟨⟨fun c i x y _ => by rw [u_ne (by omega)], fr.rf.up (Or.inl rfl)⟩, fun j x1 x2 x3 x4 x5 x6 x7 x8 x9 => by rw [u_ne (Or.inr x9)]⟩
end M93
