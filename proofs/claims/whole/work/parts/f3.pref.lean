/-! PRINTING, OF THE REFERENCE: exprs -/
def RPr (F : MF) (p : Int) (T : List Int) : Prop := F 201 80 = p ∧ F 201 73 = (T.length : Int) ∧ AL (F 252) T
def frP (F F' : MF) : Prop := (∀ c, c ≠ 201 → c ≠ 252 → F' c = F c) ∧ ∀ j, j ≠ 73 → j ≠ 80 → F' 201 j = F 201 j
def rowt (u : Int) : List Int := if u = -1 then [] else [2 * u + 1]
/-- the node v prints the numbers ns -/
def PNc (F0 : MF) (v l : Nat) (ns : List Int) : Prop := ∀ (F : MF) (p : Int) (T : List Int) (R : Int → MF → Prop), St F → frP F0 F → RPr F p T → T.length + l ≤ 3100 → (∀ F', St F' → frP F0 F' → RPr F' (prn p ns) T → L_277_36 F' R m_no) → L_276_28 (v : Int) F (fun F4 => L_277_36 F4 R m_no) m_no
/-- a row of nodes prints the numbers ns -/
def PRc (F0 : MF) (x z : Int) (l : Nat) (ns : List Int) : Prop := ∀ (F : MF) (p : Int) (T : List Int) (R : Int → MF → Prop), St F → frP F0 F → RPr F p (T ++ rowt x) → T.length + l ≤ 3100 → (∀ F', St F' → frP F0 F' → RPr F' (prn p ns) (T ++ rowt z) → L_277_36 F' R m_no) → L_277_36 F R m_no
/-- the words of an expr, of the class -/
def PXk (K : List Int) (W ns : List Int) : Prop := ∀ (V : List Int) (p : Int) (st : List (Int × Int)), drn V = false → ∃ a, Afn a ns ∧ pcl K (W ++ V) p st = pcl K V p (a :: st)
def PAk (K : List Int) (W : List Int) (NS : List (List Int)) : Prop := ∀ (V : List Int) (p : Int) (st : List (Int × Int)), drn V = false → ∃ l, AfL l NS ∧ l.length = NS.length ∧ pcl K (W ++ V) p st = pcl K V p (l.reverse ++ st)
section Mf3
variable {F F0 G H : MF} {K : List Int} {v u l k f lo hi : Nat} {x y z p w : Int} {T ns ms W W1 W2 V : List Int} {st : List (Int × Int)} {a b : Int × Int} {R : Int → MF → Prop}
theorem frP.rf : frP F F := ⟨fun _ _ _ => rfl, fun _ _ _ => rfl⟩
theorem frP.tr (h : frP F G) (k : frP G H) : frP F H := ⟨fun c x y => (k.1 c x y).trans (h.1 c x y), fun j x y => (k.2 j x y).trans (h.2 j x y)⟩
theorem frP.nd (h : frP F G) : ∀ c, c < 250 → c ≠ 201 → G c = F c := fun c x y => h.1 c y (by omega)
theorem s_274 (hS : St F) (h : RPr F p T) : C_274 x F (fun F' => RPr F' (prn p [x]) T ∧ frP F F') m_no := by
  obtain ⟨h1, h2, h3⟩ := h
  refine c_274 hS ?_
  rw [h1]
  exact ⟨⟨u_eq, by rw [u_ne (Or.inr (by decide))]; exact h2, by rw [up_row (by decide)]; exact h3⟩, fun c y z => up_row y, fun j y z => u_ne (Or.inr z)⟩
theorem s_275 (hS : St F) (h : RPr F p T) (hT : T.length < 3200) : C_275 x F (fun F' => RPr F' p (T ++ [x]) ∧ frP F F') m_no := by
  obtain ⟨h1, h2, h3⟩ := h
  refine c_275 hS ?_
  rw [h2, Int.toNat_natCast]
  refine ⟨by omega, by omega, ⟨?_, ?_, ?_⟩, fun c y z => by rw [up_row y, up_row z], fun j y z => by rw [u_ne (Or.inr y), u_ne (Or.inl (by decide))]⟩
  · rw [u_ne (Or.inr (by decide)), u_ne (Or.inl (by decide))]; exact h1
  · rw [u_eq, List.length_append, List.length_singleton]; omega
  · rw [up_row (by decide)]
    exact AL.up1 h3
theorem pop1 (hS : St F) (h : RPr F p (T ++ [x])) (hT : T.length < 3200) (hx : -1000 ≤ x ∧ x < 100000)
    (K1 : x < 0 → ∀ G, St G → frP F G → RPr G p T → C_274 ((-1) - x) G (fun F4 => L_277_36 F4 R m_no) m_no) (K2 : 0 ≤ x → ∀ G, St G → frP F G → RPr G p T → C_276 (x / 2) (x % 2) G (fun F4 => L_277_36 F4 R m_no) m_no) : L_277_36 F R m_no := by
  obtain ⟨h1, h2, h3⟩ := h
  rw [List.length_append, List.length_singleton] at h2
  have hv : F 252 T.length = x := by
    rw [h3 T.length (by rw [List.length_append, List.length_singleton]; omega), gx_app, if_neg (by omega), Nat.sub_self]
    rfl
  have hS1 : St (m_up F 201 73 (T.length : Int)) := hS.fld kd_201 rk_12_73
  have hP1 : RPr (m_up F 201 73 (T.length : Int)) p T := ⟨by rw [u_ne (Or.inr (by decide))]; exact h1, u_eq, by rw [up_row (by decide)]; exact h3.pre⟩
  have f1 : frP F (m_up F 201 73 (T.length : Int)) := ⟨fun c y z => up_row y, fun j y z => u_ne (Or.inr y)⟩
  refine b_277_36 hS ?_
  rw [h2, show ((T.length + 1 : Nat) : Int) - 1 = (T.length : Int) by omega, Int.toNat_natCast, hv]
  refine ⟨fun _ => ⟨by omega, by omega, fun c => ⟨by omega, K1 c _ hS1 f1 hP1⟩, fun c => ⟨by omega, by omega, fun c2 => ?_, fun c2 => ?_⟩⟩, fun h => absurd (by omega) h⟩
  · have := K2 (by omega) _ hS1 f1 hP1
    rw [c2] at this
    exact this
  · have := K2 (by omega) _ hS1 f1 hP1
    rw [show x % 2 = 0 by omega] at this
    exact this
/-- a number that waits -/
theorem pop_n {n : Nat} (hS : St F) (hfr : frP F0 F) (h : RPr F p (T ++ [(-1) - (n : Int)])) (hn : n < 100) (hT : T.length < 3200) (K1 : ∀ F', St F' → frP F0 F' → RPr F' (prn p [(n : Int)]) T → L_277_36 F' R m_no) : L_277_36 F R m_no := by
  refine pop1 hS h hT (by omega) (fun _ G hSG hG hP => ?_) (fun c => by omega)
  rw [show (-1) - ((-1) - (n : Int)) = (n : Int) by omega]
  refine CaV.on (s_274 hSG hP) ?_
  rintro F1 hS1 ⟨q1, q2⟩
  exact K1 F1 hS1 ((hfr.tr hG).tr q2) q1
/-- a node that waits -/
theorem pop_v (hS : St F) (hfr : frP F0 F) (h : RPr F p (T ++ [2 * (v : Int)])) (hv : v < 1600) (hT : T.length + l ≤ 3100) (hN : PNc F0 v l ns) (K1 : ∀ F', St F' → frP F0 F' → RPr F' (prn p ns) T → L_277_36 F' R m_no) : L_277_36 F R m_no := by
  refine pop1 hS h (by omega) (by omega) (fun c => by omega) (fun _ G hSG hG hP => ?_)
  rw [show 2 * (v : Int) / 2 = (v : Int) by omega, show 2 * (v : Int) % 2 = 0 by omega]
  exact c_276 hSG ⟨fun _ => hN G p T R hSG (hfr.tr hG) hP hT K1, fun h => absurd rfl h⟩
/-- a node of a row that waits -/
theorem pop_r (hS : St F) (hfr : frP F0 F) (h : RPr F p (T ++ [2 * (v : Int) + 1])) (hv : v < 1600) (hT : T.length + l + 1 ≤ 3100) (hnx : F0 227 v = -1 ∨ (0 ≤ F0 227 v ∧ F0 227 v < 1600)) (hN : PNc F0 v l ns) (K1 : ∀ F', St F' → frP F0 F' → RPr F' (prn p ns) (T ++ rowt (F0 227 v)) → L_277_36 F' R m_no) : L_277_36 F R m_no := by
  refine pop1 hS h (by omega) (by omega) (fun c => by omega) (fun _ G hSG hG hP => ?_)
  have hf := hfr.tr hG
  rw [show (2 * (v : Int) + 1) / 2 = (v : Int) by omega, show (2 * (v : Int) + 1) % 2 = 1 by omega]
  refine c_276 hSG ⟨fun h => absurd h (by decide), fun _ => ?_⟩
  rw [Int.toNat_natCast, hf.nd 227 (by decide) (by decide)]
  unfold rowt at K1
  refine ⟨by omega, fun c => ?_, fun c => ⟨by omega, by omega, by omega, ?_⟩⟩
  · rw [if_pos c, List.append_nil] at K1
    exact hN G p T R hSG hf hP (by omega) K1
  · rw [if_neg c] at K1
    refine CaV.on (s_275 hSG hP (by omega)) ?_
    rintro F1 hS1 ⟨q1, q2⟩
    exact hN F1 p _ R hS1 (hf.tr q2) q1 (by rw [List.length_append, List.length_singleton]; omega) K1
theorem prn1 : prn p (x :: ns) = prn (prn p [x]) ns := rfl
/-- kinds of nodes: what they print first -/
theorem k276 {kk : Int} (hS : St F) (hv : v < 1600) (hk : F 221 v = kk) : ((kk = 1 ∨ kk = 12 ∨ kk = 13) → C_274 kk F (fun F3 => R 0 F3) m_no → L_276_28 (v : Int) F (fun F3 => R 0 F3) m_no) := by
  intro h1 h2
  refine b_276_28 hS ?_
  rw [Int.toNat_natCast, hk]
  refine ⟨by omega, fun c => ?_, fun c => ⟨fun c2 => ?_, fun c2 => ⟨fun c3 => ?_, fun c3 => by omega⟩⟩⟩
  · exact h2
  · exact h2
  · exact h2
theorem PNc_leaf {kk : Nat} (hv : v < 1600) (hk : F0 221 v = (kk : Int)) (h : kk = 1 ∨ kk = 12 ∨ kk = 13) : PNc F0 v l [(kk : Int)] := by
  intro F p T R hS hfr hP hT K1
  refine k276 (kk := (kk : Int)) (R := fun _ F4 => L_277_36 F4 R m_no) hS hv (by rw [hfr.nd 221 (by decide) (by decide)]; exact hk) (by omega) ?_
  refine CaV.on (s_274 hS hP) ?_
  rintro F1 hS1 ⟨q1, q2⟩
  exact K1 F1 hS1 (hfr.tr q2) q1
/-- a node with one part behind its number -/
theorem PNc_one {kk : Nat} (hv : v < 1600) (hu : u < 1600) (hk : F0 221 v = (kk : Int)) (h : kk = 16 ∨ kk = 5 ∨ kk = 6 ∨ kk = 9) (h4 : F0 224 v = (u : Int)) (hN : PNc F0 u l ns) : PNc F0 v l ((kk : Int) :: ns) := by
  intro F p T R hS hfr hP hT K1
  refine b_276_28 hS ?_
  rw [Int.toNat_natCast, hfr.nd 221 (by decide) (by decide), hk]
  refine ⟨by omega, fun c => by omega, fun _ => ⟨fun c => by omega, fun _ => ⟨fun c => by omega, fun _ => ⟨fun c => by omega, fun _ => ?_⟩⟩⟩⟩
  refine CaV.on (s_274 hS hP) ?_
  rintro F1 hS1 ⟨q1, q2⟩
  have hf := hfr.tr q2
  refine ⟨fun c => by omega, fun _ => ⟨fun c => by omega, fun _ => ⟨fun c => by omega, fun _ => ⟨fun c => by omega, fun _ => ⟨fun c => by omega, fun _ => ⟨by omega, ?_⟩⟩⟩⟩⟩⟩
  rw [hf.nd 224 (by decide) (by decide), h4]
  refine ⟨by omega, CaV.on (s_275 hS1 q1 (by omega)) ?_⟩
  rintro F2 hS2 ⟨q3, q4⟩
  refine pop_v hS2 (hf.tr q4) q3 hu hT hN ?_
  intro F3 hS3 hf3 hP3
  exact K1 F3 hS3 hf3 hP3
theorem PNc_pair {q : Int} {ms : List Int} (hv : v < 1600) (hu : u < 1600) (hw : k < 1600) (hk : F0 221 v = 30) (h2 : F0 222 v = q) (h4 : F0 224 v = (u : Int)) (h5 : F0 225 v = (k : Int)) (hN : PNc F0 u l ns) (hM : PNc F0 k l ms) : PNc F0 v (l + 1) (q :: (ns ++ ms)) := by
  intro F p T R hS hfr hP hT K1
  refine b_276_28 hS ?_
  rw [Int.toNat_natCast, hfr.nd 221 (by decide) (by decide), hk, hfr.nd 222 (by decide) (by decide), h2]
  refine ⟨by omega, fun c => absurd c (by decide), fun _ => ⟨fun c => absurd c (by decide), fun _ => ⟨fun c => absurd c (by decide), fun _ => ⟨fun _ => ⟨by omega, ?_⟩, fun c => absurd rfl c⟩⟩⟩⟩
  refine CaV.on (s_274 hS hP) ?_
  rintro F1 hS1 ⟨q1, q2⟩
  have hf := hfr.tr q2
  rw [hf.nd 225 (by decide) (by decide), h5]
  refine ⟨by omega, by omega, CaV.on (s_275 hS1 q1 (by omega)) ?_⟩
  rintro F2 hS2 ⟨q3, q4⟩
  have hf2 := hf.tr q4
  rw [hf2.nd 224 (by decide) (by decide), h4]
  refine ⟨by omega, by omega, CaV.on (s_275 hS2 q3 (by rw [List.length_append, List.length_singleton]; omega)) ?_⟩
  rintro F3 hS3 ⟨q5, q6⟩
  refine pop_v hS3 (hf2.tr q6) q5 hu (by rw [List.length_append, List.length_singleton]; omega) hN ?_
  intro F4 hS4 hf4 hP4
  refine pop_v hS4 hf4 hP4 hw (by omega) hM ?_
  intro F5 hS5 hf5 hP5
  rw [← prn_app] at hP5
  exact K1 F5 hS5 hf5 hP5
/-- a node with a row between two numbers -/
theorem PNc_row {kk : Nat} {one : Int} (hv : v < 1600) (hk : F0 221 v = (kk : Int)) (h : kk = 3 ∨ kk = 14) (h4 : F0 224 v = one) (hon : one = -1 ∨ (0 ≤ one ∧ one < 1600)) (hN : PRc F0 one (-1) l ns) : PNc F0 v (l + 1) ((kk : Int) :: (ns ++ [((kk + 1 : Nat) : Int)])) := by
  intro F p T R hS hfr hP hT K1
  refine b_276_28 hS ?_
  rw [Int.toNat_natCast, hfr.nd 221 (by decide) (by decide), hk]
  refine ⟨by omega, fun c => by omega, fun _ => ⟨fun c => by omega, fun _ => ⟨fun c => by omega, fun _ => ⟨fun c => by omega, fun _ => ?_⟩⟩⟩⟩
  refine CaV.on (s_274 hS hP) ?_
  rintro F1 hS1 ⟨q1, q2⟩
  have hf := hfr.tr q2
  have fin : L_276_149 (v : Int) (kk : Int) F1 (fun F4 => L_277_36 F4 R m_no) m_no := by
    refine b_276_149 hS1 ⟨by omega, by omega, CaV.on (s_275 hS1 q1 (by omega)) ?_⟩
    rintro F2 hS2 ⟨q3, q4⟩
    have hf2 := hf.tr q4
    have go : ∀ F3, St F3 → frP F0 F3 → RPr F3 (prn p [(kk : Int)]) ((T ++ [(-1) - ((kk : Int) + 1)]) ++ rowt one) → L_277_36 F3 R m_no := by
      intro F3 hS3 hf3 hP3
      refine hN F3 _ _ R hS3 hf3 hP3 (by rw [List.length_append, List.length_singleton]; omega) ?_
      intro F4 hS4 hf4 hP4
      rw [show rowt (-1) = [] from rfl, List.append_nil] at hP4
      refine pop_n (n := kk + 1) hS4 hf4 (by rw [show (-1) - ((kk + 1 : Nat) : Int) = (-1) - ((kk : Int) + 1) by omega]; exact hP4) (by omega) (by omega) ?_
      intro F5 hS5 hf5 hP5
      rw [← prn_app] at hP5
      exact K1 F5 hS5 hf5 hP5
    rw [Int.toNat_natCast, hf2.nd 224 (by decide) (by decide), h4]
    refine ⟨by omega, fun c => ?_, fun c => ⟨by omega, by omega, by omega, ?_⟩⟩
    · exact go F2 hS2 hf2 (by unfold rowt; rw [if_pos c, List.append_nil]; exact q3)
    · refine CaV.on (s_275 hS2 q3 (by rw [List.length_append, List.length_singleton]; omega)) ?_
      rintro F3 hS3 ⟨q5, q6⟩
      exact go F3 hS3 (hf2.tr q6) (by unfold rowt; rw [if_neg c]; exact q5)
  refine ⟨fun c => by omega, fun _ => ⟨fun _ => fin, fun c3 => ⟨fun _ => fin, fun c => by omega⟩⟩⟩
/-- a call alone: the row of its args -/
theorem PNc_alone {one : Int} (hv : v < 1600) (hu : u < 1600) (hk : F0 221 v = 7) (h4 : F0 224 v = (u : Int)) (h44 : F0 224 u = one) (hon : one = -1 ∨ (0 ≤ one ∧ one < 1600)) (hN : PRc F0 one (-1) l ns) : PNc F0 v (l + 1) (7 :: (ns ++ [8])) := by
  intro F p T R hS hfr hP hT K1
  refine b_276_28 hS ?_
  rw [Int.toNat_natCast, hfr.nd 221 (by decide) (by decide), hk]
  refine ⟨by omega, fun c => absurd c (by decide), fun _ => ⟨fun c => absurd c (by decide), fun _ => ⟨fun c => absurd c (by decide), fun _ => ⟨fun c => absurd c (by decide), fun _ => ?_⟩⟩⟩⟩
  refine CaV.on (s_274 hS hP) ?_
  rintro F1 hS1 ⟨q1, q2⟩
  have hf := hfr.tr q2
  refine ⟨fun c => absurd c (by decide), fun _ => ⟨fun c => absurd c (by decide), fun _ => ⟨fun c => absurd c (by decide), fun _ => ⟨fun _ => ?_, fun c => absurd rfl c⟩⟩⟩⟩
  refine CaV.on (s_275 (x := -9) hS1 q1 (by omega)) ?_
  rintro F2 hS2 ⟨q3, q4⟩
  have hf2 := hf.tr q4
  have go : ∀ F3, St F3 → frP F0 F3 → RPr F3 (prn p [7]) ((T ++ [-9]) ++ rowt one) → L_277_36 F3 R m_no := by
    intro F3 hS3 hf3 hP3
    refine hN F3 _ _ R hS3 hf3 hP3 (by rw [List.length_append, List.length_singleton]; omega) ?_
    intro F4 hS4 hf4 hP4
    rw [show rowt (-1) = [] from rfl, List.append_nil] at hP4
    refine pop_n (n := 8) hS4 hf4 hP4 (by decide) (by omega) ?_
    intro F5 hS5 hf5 hP5
    rw [← prn_app] at hP5
    exact K1 F5 hS5 hf5 hP5
  rw [hf2.nd 224 (by decide) (by decide), h4, Int.toNat_natCast, h44]
  refine ⟨by omega, by omega, fun c => ?_, fun c => ⟨by omega, by omega, ?_⟩⟩
  · exact go F2 hS2 hf2 (by unfold rowt; rw [if_pos c, List.append_nil]; exact q3)
  · refine CaV.on (s_275 hS2 q3 (by rw [List.length_append, List.length_singleton]; omega)) ?_
    rintro F3 hS3 ⟨q5, q6⟩
    exact go F3 hS3 (hf2.tr q6) (by unfold rowt; rw [if_neg c]; exact q5)
end Mf3
