/-! BINDING OF THE REFERENCE: functions, files; look -/
def NB (F G : MF) : Prop := (∀ c, c ≠ 201 → ¬ (251 ≤ c ∧ c ≤ 254) → G c = F c) ∧ ∀ j, j ≠ 71 → j ≠ 73 → G 201 j = F 201 j
/-- what tokens are bound to by some words of a file -/
def Bvs (X : Nat → List Int) (f lo hi : Nat) (B B' : Nat → Int) : Prop := ∀ id : Nat, id < 600 → (∀ i, lo ≤ i → i < hi → bset X f (gx (Cw X f) i) ((id : Int) - 200 * (f : Int)) → B' id = bval X f (sat (Cw X f) (i + 1)) (gx (Cw X f) i) id) ∧
  ((∀ i, lo ≤ i → i < hi → ¬ bset X f (gx (Cw X f) i) ((id : Int) - 200 * (f : Int))) → B' id = B id)
def Wat (X : Nat → List Int) (f c : Nat) (W : List Int) : Prop := c + W.length ≤ (Cw X f).length ∧ ∀ j, j < W.length → gx (Cw X f) (c + j) = gx W j
abbrev s1 (it : IT) : SS := ([], [], (it.2.2.1 : Int), (it.2.2.2.1 : Int))
/-- the order of a function -/
def FO (F : MF) (X : Nat → List Int) (f : Nat) (it : IT) (hi : Nat) (L : List Nat) (W1 : List Int) : Prop :=
  it.2.2.2.2.2 = mk 2 it.2.2.1 it.2.2.2.1 :: (W1 ++ [mk 5 0 0]) ∧ OM F (ks X f) it.1 (s1 it) [] L W1 [] ∧ (∀ m ∈ L, it.1 ≤ m ∧ m < hi) ∧ L.Nodup ∧ L.length ≤ 1600 ∧ PM F it.1 it.2.2.1 it.2.2.2.1 ∧ it.1 + it.2.2.2.1 < 1600 ∧ F 225 it.1 = (it.2.2.2.2.1 : Int) ∧ it.2.2.2.2.1 < 1600 ∧ hi ≤ 1600 ∧
  ∀ B, St B → (∀ c, 221 ≤ c → c ≤ 229 → B c = F c) → C_252 (F 224 it.2.2.2.2.1) B (fun G => LSo B F G [] (ndc L)) m_no
section M9v
variable {F G : MF} {X : Nat → List Int} {f k vf lo hi c : Nat} {R : MF → Prop} {B B' : Nat → Int}
theorem NB.rf : NB F F := ⟨fun _ _ _ => rfl, fun _ _ _ => rfl⟩
theorem NB.ra {nn : Nat → Nat} (h : NB F G) (hR : RA F X nn) : RA G X nn := hR.cong (fun c x y => h.1 c x (by omega)) (h.2 27 (by decide) (by decide)) hR.hX
theorem NB.nd (h : NB F G) : ∀ c, 221 ≤ c → c ≤ 229 → G c = F c := fun c x y => h.1 c (by omega) (by omega)
theorem ArC.cong (h : ∀ c, 221 ≤ c → c ≤ 229 → G c = F c) : ∀ (l : List (Nat × Int)) (x z : Int), ArC F x l z → ArC G x l z
  | [], x, z, h1 => h1
  | a :: r, x, z, ⟨h1, h2, h3⟩ => ⟨h1, by rw [h 223 (by decide) (by decide)]; exact h2, by rw [h 227 (by decide) (by decide)]; exact ArC.cong h r _ z h3⟩
theorem OSw.cong {K : List Int} {s : SS} {ns ns1 : List (Nat × Int)} {w : Int} {L : List Nat} (h : ∀ c, 221 ≤ c → c ≤ 229 → G c = F c) (hO : OSw F K vf s ns w L ns1) : OSw G K vf s ns w L ns1 := by
  have n1 := h 221 (by decide) (by decide)
  have n2 := h 222 (by decide) (by decide)
  have n3 := h 223 (by decide) (by decide)
  have n4 := h 224 (by decide) (by decide)
  have n5 := h 225 (by decide) (by decide)
  rcases hO with ⟨p, n, e1, e2, e3, e4, e5⟩ | ⟨p, n, u, f, r, e1, e2, e3, e4, e5, e6, e7, e8⟩ | ⟨p, n, u, v, f, f2, r, e1, e2, e3, e4, e5, e6, e7, e8, e9, e10⟩ | hO | ⟨p, n, as, r, e1, e2, e3, e4, e5, e6, e7⟩ | ⟨o, kd, p, e, n, u, f, h1, e1, e2, e3, e4, e5, e6, e7, ⟨d, e8⟩, e9⟩ | ⟨a, n, e1, e2, e3, e4, e5, e6⟩ | hO | ⟨a, n, e1, e2, e3, e4, e5, e6⟩
  · exact Or.inl ⟨p, n, e1, e2, by rw [n1]; exact e3, by rw [n2]; exact e4, e5⟩
  · exact Or.inr (Or.inl ⟨p, n, u, f, r, e1, e2, e3, by rw [n1]; exact e4, by rw [n2]; exact e5, by rw [n4]; exact e6, by rw [n3]; exact e7, e8⟩)
  · exact Or.inr (Or.inr (Or.inl ⟨p, n, u, v, f, f2, r, e1, e2, e3, by rw [n1]; exact e4, by rw [n2]; exact e5, by rw [n4]; exact e6, by rw [n5]; exact e7, by rw [n3]; exact e8, by rw [n3]; exact e9, e10⟩))
  · exact Or.inr (Or.inr (Or.inr (Or.inl hO)))
  · exact Or.inr (Or.inr (Or.inr (Or.inr (Or.inl ⟨p, n, as, r, e1, e2, e3, by rw [n1]; exact e4, by rw [n2]; exact e5, by rw [n4]; exact e6.cong h _ _ _, e7⟩))))
  · exact Or.inr (Or.inr (Or.inr (Or.inr (Or.inr (Or.inl ⟨o, kd, p, e, n, u, f, h1, e1, e2, e3, by rw [n1]; exact e4, by rw [n2]; exact e5, by rw [n4]; exact e6, by rw [n3]; exact e7, ⟨d, Env.cong h _ _ _ e8⟩, e9⟩)))))
  · exact Or.inr (Or.inr (Or.inr (Or.inr (Or.inr (Or.inr (Or.inl ⟨a, n, e1, e2, by rw [n1]; exact e3, e4, e5, by rw [n2]; exact e6⟩))))))
  · exact Or.inr (Or.inr (Or.inr (Or.inr (Or.inr (Or.inr (Or.inr (Or.inl hO)))))))
  · exact Or.inr (Or.inr (Or.inr (Or.inr (Or.inr (Or.inr (Or.inr (Or.inr ⟨a, n, e1, e2, by rw [n1]; exact e3, e4, e5, by rw [n2]; exact e6⟩)))))))
theorem OM.cong {K : List Int} (h : ∀ c, 221 ≤ c → c ≤ 229 → G c = F c) : ∀ (W : List Int) (s : SS) (ns : List (Nat × Int)) (L : List Nat) (ns' : List (Nat × Int)), OM F K vf s ns L W ns' → OM G K vf s ns L W ns'
  | [], _, _, _, _, h1 => h1
  | w :: W, s, ns, L, ns', ⟨L1, L2, n1, h1, h2, h3⟩ => ⟨L1, L2, n1, h1, OSw.cong h h2, OM.cong h W _ _ _ _ h3⟩
theorem SE.cong {stm : Int} {s : SS} (h : ∀ c, 221 ≤ c → c ≤ 229 → G c = F c) (k : SE F vf stm s) : SE G vf stm s := by
  obtain ⟨n, d, e, k⟩ := k
  exact ⟨n, d, e, Env.cong h _ _ _ k⟩
theorem OMh.base {K : List Int} {H : MF} (h : ∀ c, 221 ≤ c → c ≤ 229 → G c = F c) : ∀ (W : List Int) (s : SS) (ns : List (Nat × Int)) (L : List Nat) (ns' : List (Nat × Int)), OMh F H K vf s ns L W ns' → OMh G H K vf s ns L W ns'
  | [], _, _, _, _, h1 => h1
  | w :: W, s, ns, L, ns', ⟨L1, L2, n1, h1, h2, h3, h4⟩ => ⟨L1, L2, n1, h1, OSw.cong h h2, fun m hm a b d => SE.cong h (h3 m hm (by rw [← h 221 (by decide) (by decide)]; exact a) (by rw [← h 222 (by decide) (by decide)]; exact b) (by rw [← h 222 (by decide) (by decide)]; exact d)), OMh.base h W _ _ _ _ h4⟩
theorem FO_of {it : IT} (hI : ItP F (ks X f) c lo hi it) (h2 : it.2.1 = 2) : ∃ (L : List Nat) (W1 : List Int), FO F X f it hi L W1 := by
  obtain ⟨k0, k1, k2, k3, k4⟩ := hI
  rcases k1 with ⟨k1, -⟩ | ⟨-, e1, e2, e3, e4, e5, e6, W1, e7, e8⟩
  · omega
  · have g := e7.rng Sme.rng
    have hB := LBk_of (vf := it.1) (c := c + 1) Sme.rng (fun a b c v W h k => by obtain ⟨d, h⟩ := h; exact LSt_of d _ _ _ _ _ h k) e7 (by omega)
    have ho := Bk_one Sme.rng e7 (by omega)
    obtain ⟨L, b1, b2, b3, b4, b5, b6⟩ := hB (s1 it) (Or.inl ⟨e6, e5, rfl⟩)
    refine ⟨L, W1, e8, b1, fun m hm => by have := b3 m hm; omega, b4, by omega, e3, by omega, e4, by omega, by omega, fun B hS hz => ?_⟩
    refine c_252 hS ?_
    have l0 : LSo B F (m_up (m_up B 201 71 0) 201 73 0) [] [] := ⟨⟨fun c x y z => by rw [up_row x, up_row x], fun j x y => by rw [u_ne (Or.inr y), u_ne (Or.inr x)], ⟨u_eq, fun i hi => absurd hi (Nat.not_lt_zero i)⟩, ⟨by rw [u_ne (Or.inr (by decide)), u_eq]; rfl, fun i hi => absurd hi (Nat.not_lt_zero i)⟩⟩, hz⟩
    refine CaV.on (s_249 (how := 0) ((hS.fld kd_201 rk_12_71).fld kd_201 rk_12_73) l0 ho (by decide) (by decide)) ?_
    intro G1 hS1 l1
    refine b6 B G1 [] [] _ hS1 l1 (by rw [List.length_nil]; omega) (by rw [List.length_nil]; omega) (fun G2 hS2 l2 => ?_)
    refine b_252_16 hS2 ⟨fun h => ?_, fun _ => l2⟩
    rw [l2.1.2.2.1.1] at h
    exact absurd h (by decide)
theorem Cw_uniq (hX : ∀ r, r < 24 → Rok (X r)) (hf : f < 3) {i j : Nat} {t : Int} (hi : i < (Cw X f).length) (hj : j < (Cw X f).length) (h1 : bset X f (gx (Cw X f) i) t) (h2 : bset X f (gx (Cw X f) j) t) : i = j := by
  have sp : sm (cw t) (Cw X f) ≤ 1 := ((Cw_pv hX hf).1.1.2.1 t).1
  have a1 := cw_1 h1.1
  have a2 := cw_1 h2.1
  rcases Nat.lt_trichotomy i j with h | h | h
  · have := sm_two (g := cw t) (Cw X f) i j h hj
    omega
  · exact h
  · have := sm_two (g := cw t) (Cw X f) j i h hi
    omega
theorem Bvs.rf : Bvs X f c c B B := fun id _ => ⟨fun i h1 h2 => by omega, fun _ => rfl⟩
theorem Bvs.tr {m : Nat} {B1 : Nat → Int} (hX : ∀ r, r < 24 → Rok (X r)) (hf : f < 3) (h1 : lo ≤ m) (h2 : m ≤ hi) (h3 : hi ≤ (Cw X f).length) (h : Bvs X f lo m B B1) (k : Bvs X f m hi B1 B') : Bvs X f lo hi B B' := by
  intro id hid
  refine ⟨fun i a1 a2 a3 => ?_, fun hn => ?_⟩
  · by_cases e : i < m
    · rw [(k id hid).2 (fun j b1 b2 b3 => by have := Cw_uniq hX hf (i := i) (j := j) (by omega) (by omega) a3 b3; omega)]
      exact (h id hid).1 i a1 e a3
    · exact (k id hid).1 i (by omega) a2 a3
  · rw [(k id hid).2 (fun j b1 b2 => hn j (by omega) b2)]
    exact (h id hid).2 (fun j b1 b2 => hn j b1 (by omega))
theorem Bvs.tr' {m : Nat} {B1 : Nat → Int} (hX : ∀ r, r < 24 → Rok (X r)) (hf : f < 3) (h1 : lo ≤ m) (h2 : m ≤ hi) (h3 : hi ≤ (Cw X f).length) (h : Bvs X f m hi B B1) (k : Bvs X f lo m B1 B') : Bvs X f lo hi B B' := by
  intro id hid
  refine ⟨fun i a1 a2 a3 => ?_, fun hn => ?_⟩
  · by_cases e : i < m
    · exact (k id hid).1 i a1 e a3
    · rw [(k id hid).2 (fun j b1 b2 b3 => by have := Cw_uniq hX hf (i := i) (j := j) (by omega) (by omega) a3 b3; omega)]
      exact (h id hid).1 i (by omega) a2 a3
  · rw [(k id hid).2 (fun j b1 b2 => hn j b1 (by omega))]
    exact (h id hid).2 (fun j b1 b2 => hn j (by omega) b2)
theorem Bvs.eq (hX : ∀ r, r < 24 → Rok (X r)) (hf : f < 3) {B1 B2 : Nat → Int} (h : Bvs X f lo hi B B1) (k : Bvs X f lo hi B B2) : ∀ id, id < 600 → B1 id = B2 id := by
  intro id hid
  by_cases e : ∃ i, lo ≤ i ∧ i < hi ∧ bset X f (gx (Cw X f) i) ((id : Int) - 200 * (f : Int))
  · obtain ⟨i, e1, e2, e3⟩ := e
    rw [(h id hid).1 i e1 e2 e3, (k id hid).1 i e1 e2 e3]
  · rw [(h id hid).2 (fun i a b d => e ⟨i, a, b, d⟩), (k id hid).2 (fun i a b d => e ⟨i, a, b, d⟩)]
theorem Bvs.one {i : Nat} (h : ∀ id, id < 600 → B' id = bwd X f (sat (Cw X f) (i + 1)) (gx (Cw X f) i) B id) : Bvs X f i (i + 1) B B' := by
  intro id hid
  refine ⟨fun j a1 a2 a3 => ?_, fun hn => ?_⟩
  · obtain rfl : j = i := by omega
    rw [h id hid, bwd_1 a3]
  · rw [h id hid, bwd_0 (hn i (Nat.le_refl _) (Nat.lt_succ_self _))]
theorem bat_vs (hX : ∀ r, r < 24 → Rok (X r)) (hf : f < 3) : ∀ i, i ≤ (Cw X f).length → Bvs X f 0 i B (bat X f B i)
  | 0, _ => Bvs.rf
  | i + 1, h => Bvs.tr hX hf (Nat.zero_le _) (Nat.le_succ i) h (bat_vs hX hf i (by omega)) (Bvs.one (fun id _ => rfl))
theorem bbk_vs (hX : ∀ r, r < 24 → Rok (X r)) (hf : f < 3) : ∀ (W : List Int) (s : SS) (i : Nat), Wat X f i W → sat (Cw X f) i = s → Bvs X f i (i + W.length) B (bbk X f s W B)
  | [], s, i, _, _ => Bvs.rf
  | w :: W, s, i, ⟨h1, h2⟩, h3 => by
    have e0 := h2 0 (by rw [List.length_cons]; omega)
    change gx (Cw X f) i = w at e0
    have es : sat (Cw X f) (i + 1) = sstep s w := by show sstep (sat (Cw X f) i) (gx (Cw X f) i) = _; rw [h3, e0]
    rw [List.length_cons] at h1 ⊢
    have := bbk_vs hX hf W (sstep s w) (i + 1) ⟨by omega, fun j hj => by
      have := h2 (j + 1) (by rw [List.length_cons]; omega)
      rw [show i + (j + 1) = i + 1 + j by omega] at this
      exact this⟩ es
    rw [show i + 1 + W.length = i + (W.length + 1) by omega] at this
    refine Bvs.tr' hX hf (Nat.le_succ i) (by omega) h1 this (Bvs.one (fun id _ => ?_))
    show bwd X f (sstep s w) w (bbk X f (sstep s w) W B) id = _
    rw [es, e0]
theorem Wat.cons {w : Int} {W : List Int} (h : Wat X f c (w :: W)) : gx (Cw X f) c = w ∧ Wat X f (c + 1) W := by
  obtain ⟨h1, h2⟩ := h
  rw [List.length_cons] at h1
  refine ⟨h2 0 (by rw [List.length_cons]; omega), by omega, fun j hj => ?_⟩
  have := h2 (j + 1) (by rw [List.length_cons]; omega)
  rw [show c + (j + 1) = c + 1 + j by omega] at this
  exact this
theorem Wat.app {V W : List Int} (h : Wat X f c (V ++ W)) : Wat X f c V ∧ Wat X f (c + V.length) W := by
  obtain ⟨h1, h2⟩ := h
  rw [List.length_append] at h1
  refine ⟨⟨by omega, fun j hj => ?_⟩, by omega, fun j hj => ?_⟩
  · rw [h2 j (by rw [List.length_append]; omega), gx_app, if_pos hj]
  · have := h2 (V.length + j) (by rw [List.length_append]; omega)
    rw [gx_app, if_neg (by omega), show V.length + j - V.length = j by omega] at this
    rw [Nat.add_assoc]
    exact this
theorem Wat.ok {W : List Int} (hX : ∀ r, r < 24 → Rok (X r)) (hf : f < 3) (h : Wat X f c W) : WOk (ks X f) W := by
  intro w hw
  obtain ⟨j, hj, rfl⟩ := List.getElem_of_mem hw
  have e : gx W j = W[j] := by unfold gx; rw [List.getD_eq_getElem?_getD, List.getElem?_eq_getElem hj]; rfl
  have h1 := h.1
  rw [← e, ← h.2 j hj]
  exact ⟨Cw_wc hX hf (by omega), (Fw_len hX hf).2.2.2 _ (by omega)⟩
end M9v
