/-! RUNNING, OF THE CLASS -/
def lowF (F : MF) : List RuF → Prop
  | [] => True
  | b :: r => F 95 (r.length + 1) = (b.1 : Int) ∧ F 94 (r.length + 1) = (b.2.1 : Int) ∧ (∀ t, t < 200 → F 92 (200 * r.length + t) = b.2.2 t) ∧ b.1 < 3 ∧ b.2.1 ≤ 40000 ∧ lowF F r
def topF (F : MF) : List RuF → Prop
  | [] => True
  | a :: r => F 91 7 = (a.1 : Int) ∧ F 91 8 = (a.2.1 : Int) ∧ (∀ t, t < 200 → F 92 (200 * r.length + t) = a.2.2 t) ∧ a.1 < 3 ∧ a.2.1 ≤ 40000 ∧ lowF F r
def RunC (F : MF) (S : RuS) : Prop := F 91 4 = (S.1.length : Int) ∧ S.1.length ≤ 4 ∧ (F 91 5 = (S.2.1.length : Int) ∧ AL (F 93) S.2.1.reverse ∧ S.2.1.length ≤ 800) ∧ F 91 6 = (S.2.2.1 : Int) ∧ F 91 9 = S.2.2.2 ∧ topF F S.1
def RunP : Nat → Prop := fun c => 91 ≤ c ∧ c ≤ 95
section Md1
variable {F G : MF} {X : Nat → List Int} {n f p k : Nat} {g : Nat → Int} {r fs : List RuF} {vs : List Int} {s : Nat} {res v : Int} {S S1 : RuS} {R : MF → Prop}
theorem frRun_dtt (hn : n ∈ m_I1) (hD : DTT F n X) (hf : fr RunP F G) : DTT G n X := hD.fr hf (fun c hc => by
  unfold m_I1 at hn
  simp only [List.mem_cons, List.not_mem_nil, or_false] at hn
  unfold RunP at hc
  omega)
theorem frRun_b (hn : n ∈ m_I1) (hb : ∀ id, id < 600 → F (n + 7) id = bnd X id) (hf : fr RunP F G) : ∀ id, id < 600 → G (n + 7) id = bnd X id := fun id hid => by
  rw [hf (n + 7) (fun h => by
    unfold m_I1 at hn
    simp only [List.mem_cons, List.not_mem_nil, or_false] at hn
    unfold RunP at h
    omega)]
  exact hb id hid
theorem lowF.cong : ∀ (r : List RuF), lowF F r → (∀ c i, c = 92 ∧ i < 200 * r.length ∨ (c = 94 ∨ c = 95) ∧ i ≤ r.length → G c i = F c i) → lowF G r
  | [], _, _ => trivial
  | b :: r, ⟨h1, h2, h3, h4, h5, h6⟩, e => by
    rw [List.length_cons] at e
    exact ⟨by rw [e 95 _ (Or.inr ⟨Or.inr rfl, by omega⟩)]; exact h1, by rw [e 94 _ (Or.inr ⟨Or.inl rfl, by omega⟩)]; exact h2, fun t ht => by rw [e 92 _ (Or.inl ⟨rfl, by omega⟩)]; exact h3 t ht, h4, h5, lowF.cong r h6 (fun c i h => e c i (by omega))⟩
theorem s_82 {x : Int} (hS : St F) (h5 : F 91 5 = (vs.length : Int)) (hA : AL (F 93) vs.reverse) (hl : vs.length < 800) : C_82 x F (fun F' => F' 91 5 = ((vs.length + 1 : Nat) : Int) ∧ AL (F' 93) (x :: vs).reverse ∧ (∀ j, j ≠ 5 → F' 91 j = F 91 j) ∧ fr (fun c => c = 91 ∨ c = 93) F F') m_no := by
  refine c_82 hS ?_
  rw [h5, Int.toNat_natCast]
  have l1 : vs.reverse.length = vs.length := List.length_reverse
  refine ⟨fun _ => ⟨by omega, by omega, ?_, ?_, fun j hj => ?_, (fr.rf.up (Or.inr rfl)).up (Or.inl rfl)⟩, fun h => by omega⟩
  · rw [u_eq]; omega
  · rw [up_row (by decide), List.reverse_cons]
    have := AL.up1 (v := x) hA
    rwa [l1] at this
  · rw [u_ne (Or.inr hj), u_ne (Or.inl (by decide))]
theorem s_83 (hS : St F) {a : Int} (h5 : F 91 5 = ((vs.length + 1 : Nat) : Int)) (hA : AL (F 93) (a :: vs).reverse) (hl : vs.length < 800) : C_83 F (fun x F' => x = a ∧ F' 91 5 = (vs.length : Int) ∧ AL (F' 93) vs.reverse ∧ (∀ j, j ≠ 5 → F' 91 j = F 91 j) ∧ fr (fun c => c = 91) F F') m_no := by
  refine c_83 hS ?_
  have l1 : vs.reverse.length = vs.length := List.length_reverse
  rw [List.reverse_cons] at hA
  have hv : F 93 vs.length = a := by
    rw [hA vs.length (by rw [List.length_append, List.length_singleton]; omega), gx_app, if_neg (by omega), l1, Nat.sub_self]
    rfl
  rw [h5, show ((vs.length + 1 : Nat) : Int) - 1 = (vs.length : Int) by omega, Int.toNat_natCast, hv]
  refine ⟨fun _ => ⟨by omega, by omega, rfl, u_eq, ?_, fun j hj => u_ne (Or.inr hj), fr.rf.up rfl⟩, fun h => by omega⟩
  rw [up_row (by decide)]
  exact hA.pre
/-- the function that runs is left -/
theorem s_85 {a : RuF} {x : Int} (hS : St F) (h4 : F 91 4 = ((r.length + 1 : Nat) : Int)) (hr : r.length < 4) (h5 : F 91 5 = (vs.length : Int)) (hA : AL (F 93) vs.reverse) (hl : vs.length < 800) (h6 : F 91 6 = (s : Int)) (hL : lowF F r) :
    C_85 x F (fun F' => RunC F' (r, x :: vs, s, x) ∧ fr RunP F F') m_no := by
  refine c_85 hS ?_
  rw [h4, show ((r.length + 1 : Nat) : Int) - 1 = (r.length : Int) by omega, Int.toNat_natCast]
  refine ⟨by omega, by omega, by omega, ?_⟩
  obtain ⟨F1, e1⟩ : ∃ F1, F1 = m_up (m_up (m_up (m_up F 91 4 (r.length : Int)) 91 8 (F 94 r.length)) 91 7 (F 95 r.length)) 91 9 x := ⟨_, rfl⟩
  rw [← e1]
  have hS1 : St F1 := by rw [e1]; exact (((hS.fld kd_91 rk_6_4).fld kd_91 rk_6_8).fld kd_91 rk_6_7).fld kd_91 rk_6_9
  have ne : ∀ c i, c ≠ 91 → F1 c i = F c i := fun c i h => by rw [e1, u_ne (Or.inl h), u_ne (Or.inl h), u_ne (Or.inl h), u_ne (Or.inl h)]
  have f4 : F1 91 4 = (r.length : Int) := by rw [e1, u_ne (Or.inr (by decide)), u_ne (Or.inr (by decide)), u_ne (Or.inr (by decide)), u_eq]
  have f8 : F1 91 8 = F 94 r.length := by rw [e1, u_ne (Or.inr (by decide)), u_ne (Or.inr (by decide)), u_eq]
  have f7 : F1 91 7 = F 95 r.length := by rw [e1, u_ne (Or.inr (by decide)), u_eq]
  have f9 : F1 91 9 = x := by rw [e1, u_eq]
  have f6 : F1 91 6 = (s : Int) := by rw [e1, u_ne (Or.inr (by decide)), u_ne (Or.inr (by decide)), u_ne (Or.inr (by decide)), u_ne (Or.inr (by decide))]; exact h6
  have f5 : F1 91 5 = (vs.length : Int) := by rw [e1, u_ne (Or.inr (by decide)), u_ne (Or.inr (by decide)), u_ne (Or.inr (by decide)), u_ne (Or.inr (by decide))]; exact h5
  have r1 : fr RunP F F1 := by rw [e1]; exact (((fr.rf.up (by unfold RunP; omega)).up (by unfold RunP; omega)).up (by unfold RunP; omega)).up (by unfold RunP; omega)
  refine CaV.on (s_82 hS1 f5 (fun i hi => by rw [ne 93 _ (by decide)]; exact hA i hi) hl) ?_
  rintro F2 hS2 ⟨k1, k2, k3, k4⟩
  refine ⟨⟨by rw [k3 4 (by decide)]; exact f4, by show r.length ≤ 4; omega, ⟨k1, k2, by show vs.length + 1 ≤ 800; omega⟩, by rw [k3 6 (by decide)]; exact f6, by rw [k3 9 (by decide)]; exact f9, ?_⟩, r1.tr (k4.mo (fun c hc => by unfold RunP; omega))⟩
  show topF F2 r
  cases r with
  | nil => trivial
  | cons b r =>
    obtain ⟨l1, l2, l3, l4, l5, l6⟩ := hL
    have e2 : ∀ c i, c ≠ 91 → c ≠ 93 → F2 c i = F c i := fun c i h h' => by rw [k4 c (by omega)]; exact ne c i h
    rw [List.length_cons] at f7 f8
    exact ⟨by rw [k3 7 (by decide), f7]; exact l1, by rw [k3 8 (by decide), f8]; exact l2, fun t ht => by rw [e2 92 _ (by decide) (by decide)]; exact l3 t ht, l4, l5, lowF.cong r l6 (fun c i h => e2 c i (by omega) (by omega))⟩
theorem l_435 {a b : Nat} (hb : b ≤ 800) : ∀ (d i : Nat) (G : MF), i + d = b → a ≤ i → St G → (∀ q, G 92 q = if a ≤ q ∧ q < i then 0 else F 92 q) → (∀ c, c ≠ 92 → G c = F c) → L_435_10 92 (b : Int) 0 (i : Int) G (fun F' => (∀ q, F' 92 q = if a ≤ q ∧ q < b then 0 else F 92 q) ∧ ∀ c, c ≠ 92 → F' c = F c) m_no := by
  intro d
  induction d with
  | zero =>
    intro i G hi ha hS hq hz
    obtain rfl : i = b := by omega
    exact b_435_10 kd_92 hS ⟨fun h => by omega, fun _ => ⟨hq, hz⟩⟩
  | succ d ih =>
    intro i G hi ha hS hq hz
    refine b_435_10 kd_92 hS ⟨fun _ => ⟨by omega, by omega, ?_⟩, fun h => by omega⟩
    rw [Int.toNat_natCast, show (i : Int) + 1 = ((i + 1 : Nat) : Int) by omega]
    refine ih (i + 1) _ (by omega) (by omega) (hS.arr kd_92 (by decide)) (fun q => ?_) (fun c hc => by rw [up_row hc]; exact hz c hc)
    by_cases e : q = i
    · rw [e, u_eq, if_pos (by omega)]
    · rw [u_ne (Or.inr e), hq q]
      by_cases e2 : a ≤ q ∧ q < i
      · rw [if_pos e2, if_pos (by omega)]
      · rw [if_neg e2, if_neg (by omega)]
theorem s_435 {a b : Nat} (hS : St F) (hab : a ≤ b) (hb : b ≤ 800) : C_435 92 (a : Int) (b : Int) 0 F (fun F' => (∀ q, F' 92 q = if a ≤ q ∧ q < b then 0 else F 92 q) ∧ ∀ c, c ≠ 92 → F' c = F c) m_no := by
  refine c_435 kd_92 hS (c_436 hS ⟨fun h => by omega, fun _ => b_436_46 hS ⟨fun h => by omega, fun _ => ⟨fun h => by omega, fun _ => ?_⟩⟩⟩)
  refine l_435 hb (b - a) a F (by omega) (Nat.le_refl _) hS (fun q => ?_) (fun _ _ => rfl)
  rw [if_neg (by omega)]
/-- a function begins -/
theorem s_84 {v k : Nat} (hn : n ∈ m_I1) (hS : St F) (hX : ∀ r, r < 24 → Rok (X r)) (hD : DTT F n X) (hv : v < 600) (hx : fix' (Fw X (v / 200)) ((v % 200 : Nat) : Int) 0 ≠ -1)
    (h4 : F 91 4 = (fs.length : Int)) (hr : fs.length < 4) (h5 : F 91 5 = (vs.length : Int)) (hA : AL (F 93) vs.reverse) (hl : vs.length ≤ 800) (h6 : F 91 6 = (s : Int)) (h9 : F 91 9 = res) (hk : k ≤ vs.length) (hL : topF F fs) :
    C_84 n (v : Int) (k : Int) F (fun F' => RunC F' (ren X v k fs vs s res) ∧ fr RunP F F') m_no := by
  have hT := (hD.2 (v / 200) (by omega)).2
  have hlen := (Fw_len hX (f := v / 200) (by omega))
  obtain ⟨en, n1, n2, n3⟩ := fix_at _ _ _ hx
  have hr' := (fix_rng (Fw X (v / 200)) ((v % 200 : Nat) : Int) 0).resolve_left hx
  obtain ⟨p0, m, i0, a1, a2, a3, a4, a5, a6, a7⟩ := Fw_tok hX (f := v / 200) (by omega) n1
  have hp0 : p0 = v % 200 := by omega
  have e0 : fix' (Fw X (v / 200)) ((v % 200 : Nat) : Int) 0 - ((0 : Nat) : Int) = fix' (Fw X (v / 200)) ((v % 200 : Nat) : Int) 0 := by omega
  rw [e0, a3] at n3
  have epar : ppar X v = (m : Int) := by
    unfold ppar
    rw [if_neg hx]
    exact n3
  have htk := toks_len hX (f := v / 200) (by omega)
  have hpm : v % 200 + 2 * m < 200 := by
    have := kn_tok (by rw [a7 m (Nat.le_refl _)]; decide)
    omega
  have l1 : vs.reverse.length = vs.length := List.length_reverse
  refine c_84 hn hS ?_
  rw [h4]
  refine ⟨by omega, ?_⟩
  refine CaI.on (s_19 hn hS hX hD hv) ?_
  rintro r4 F1 hS1 ⟨rfl, rfl⟩
  rw [h5, epar, show (fs.length : Int) * 200 = ((200 * fs.length : Nat) : Int) by omega, show ((200 * fs.length : Nat) : Int) + 200 = ((200 * fs.length + 200 : Nat) : Int) by omega]
  refine ⟨by omega, by omega, ?_⟩
  refine CaV.on (s_435 hS1 (by omega) (by omega)) ?_
  rintro F2 hS2 ⟨q1, q2⟩
  have eg : g_437 F1 0 ((vs.length : Int) - (k : Int)) = ((vs.length - k : Nat) : Int) := by unfold g_437; split <;> omega
  rw [eg]
  have f2 : ∀ j, F2 91 j = F1 91 j := fun j => by rw [q2 91 (by decide)]
  have args : ∀ i, i < k → F2 93 (vs.length - k + i) = gx (vs.take k).reverse i := fun i hi => by
    rw [q2 93 (by decide), hA _ (by omega)]
    have e1 : vs.reverse = (vs.drop k).reverse ++ (vs.take k).reverse := by rw [← List.reverse_append, List.take_append_drop]
    have l2 : (vs.drop k).reverse.length = vs.length - k := by rw [List.length_reverse, List.length_drop]
    rw [e1, gx_app, if_neg (by omega), l2, show vs.length - k + i - (vs.length - k) = i by omega]
  -- the parameters
  have par : ∀ (d i : Nat) (G : MF) (R : MF → Prop), i + d = min m k → St G → (∀ t, t < 200 → G 92 (200 * fs.length + t) = argS (v % 200) i (vs.take k).reverse t) → (∀ q, ¬ (200 * fs.length ≤ q ∧ q < 200 * fs.length + 200) → G 92 q = F1 92 q) → (∀ c, c ≠ 92 → G c = F1 c) →
      (∀ G', St G' → (∀ t, t < 200 → G' 92 (200 * fs.length + t) = argS (v % 200) (min m k) (vs.take k).reverse t) → (∀ q, ¬ (200 * fs.length ≤ q ∧ q < 200 * fs.length + 200) → G' 92 q = F1 92 q) → (∀ c, c ≠ 92 → G' c = F1 c) → L_84_109 n (v : Int) ((vs.length - k : Nat) : Int) G' R m_no) →
      L_84_48 n (v : Int) (k : Int) ((200 * fs.length : Nat) : Int) (m : Int) ((vs.length - k : Nat) : Int) (i : Int) G R m_no := by
    intro d
    induction d with
    | zero =>
      intro i G R hi hSG hs ho hz K
      refine b_84_48 hn hSG ⟨fun c1 => ⟨fun c2 => by omega, fun _ => ?_⟩, fun _ => ?_⟩
      · exact K G hSG (by rw [show min m k = i by omega]; exact hs) ho hz
      · exact K G hSG (by rw [show min m k = i by omega]; exact hs) ho hz
    | succ d ih =>
      intro i G R hi hSG hs ho hz K
      refine b_84_48 hn hSG ⟨fun c1 => ⟨fun c2 => ⟨by omega, by omega, by omega, by omega, fun c3 => ⟨by omega, by omega, by omega, by omega, by omega, ?_⟩, fun c3 => absurd (by omega) c3⟩, fun c2 => by omega⟩, fun c1 => by omega⟩
      have ei : (((200 * fs.length : Nat) : Int) + ((v : Int) % 200 + 2 + 2 * (i : Int))).toNat = 200 * fs.length + (v % 200 + 2 + 2 * i) := by omega
      have ej : (((vs.length - k : Nat) : Int) + (i : Int)).toNat = vs.length - k + i := by omega
      rw [ei, ej, show (i : Int) + 1 = ((i + 1 : Nat) : Int) by omega]
      have ga : G 93 (vs.length - k + i) = gx (vs.take k).reverse i := by rw [hz 93 (by decide), ← q2 93 (by decide)]; exact args i (by omega)
      rw [ga]
      refine ih (i + 1) _ R (by omega) (hSG.arr kd_92 (by omega)) (fun t ht => ?_) (fun q hq => by rw [u_ne (Or.inr (by omega))]; exact ho q hq) (fun c hc => by rw [up_row hc]; exact hz c hc) K
      unfold argS
      by_cases e : t = v % 200 + 2 + 2 * i
      · subst e
        rw [u_eq, if_pos (by omega), show (v % 200 + 2 + 2 * i - (v % 200 + 2)) / 2 = i by omega]
      · rw [u_ne (Or.inr (by omega)), hs t ht]
        unfold argS
        by_cases c : v % 200 + 2 ≤ t ∧ (t - (v % 200 + 2)) % 2 = 0 ∧ (t - (v % 200 + 2)) / 2 < i
        · rw [if_pos c, if_pos (by omega)]
        · rw [if_neg c, if_neg (by omega)]
  refine par (min m k) 0 F2 _ (by omega) hS2 (fun t ht => ?_) (fun q hq => ?_) q2 ?_
  · rw [q1 _, if_pos (by omega)]
    unfold argS
    rw [if_neg (by omega)]
  · rw [q1 q, if_neg (by omega)]
  intro G hSG hs ho hz
  have g91 : ∀ j, G 91 j = F1 91 j := fun j => by rw [hz 91 (by decide)]
  refine b_84_109 hn hSG ?_
  rw [g91 4, g91 7, g91 8, h4, Int.toNat_natCast]
  obtain ⟨F3, e3⟩ : ∃ F3, F3 = m_up (m_up (m_up (m_up (m_up G 91 5 ((vs.length - k : Nat) : Int)) 94 fs.length (F1 91 8)) 95 fs.length (F1 91 7)) 91 4 ((fs.length : Int) + 1)) 91 7 ((v : Int) / 200) := ⟨_, rfl⟩
  rw [← e3, show (v : Int) / 200 = ((v / 200 : Nat) : Int) by omega, show (v : Int) % 200 = ((v % 200 : Nat) : Int) by omega, Int.toNat_natCast]
  refine ⟨by omega, by omega, by omega, by omega, by omega, by omega, ?_⟩
  have hS3 : St F3 := by rw [e3]; exact ((((hSG.fld kd_91 rk_6_5).arr kd_94 (by omega)).arr kd_95 (by omega)).fld kd_91 rk_6_4).fld kd_91 rk_6_7
  have ne : ∀ c i, c ≠ 91 → c ≠ 94 → c ≠ 95 → F3 c i = G c i := fun c i h h2 h3 => by rw [e3, u_ne (Or.inl h), u_ne (Or.inl h), u_ne (Or.inl h3), u_ne (Or.inl h2), u_ne (Or.inl h)]
  have r3 : fr RunP F1 F3 := by
    have : fr RunP F1 G := fun c hc => hz c (fun e => hc (by unfold RunP; omega))
    rw [e3]
    exact ((((this.up (by unfold RunP; omega)).up (by unfold RunP; omega)).up (by unfold RunP; omega)).up (by unfold RunP; omega)).up (by unfold RunP; omega)
  have hD3 := frRun_dtt hn hD r3
  refine CaI.on (s_128 hn hS3 hX hD3 (by omega)) ?_
  rintro r7 F4 hS4 ⟨rfl, rfl⟩
  have eg2 : g_437 F4 0 (fix' (Fw X (v / 200)) ((v % 200 : Nat) : Int) 0) = fix' (Fw X (v / 200)) ((v % 200 : Nat) : Int) 0 := by unfold g_437; split <;> omega
  rw [eg2]
  have hst : AL (F4 (n + (20 + 19 * (v / 200)) + 7)) ((Fw X (v / 200)).map (fun e => e.2.2.1)) := (hD3.2 (v / 200) (by omega)).2.2.2.1.2.2.2.1
  have hx7 := hst (fix' (Fw X (v / 200)) ((v % 200 : Nat) : Int) 0).toNat (by rw [List.length_map]; omega)
  have hst2 : ∃ z : Nat, gx ((Fw X (v / 200)).map (fun e => e.2.2.1)) (fix' (Fw X (v / 200)) ((v % 200 : Nat) : Int) 0).toNat = (z : Int) ∧ z < 640 := by
    have hj : (fix' (Fw X (v / 200)) ((v % 200 : Nat) : Int) 0).toNat < (Fw X (v / 200)).length := by omega
    rw [ge_map hj]
    obtain ⟨p1, m1, i1, b1, b2, b3, b4, b5, -⟩ := Fw_tok hX (f := v / 200) (by omega) (List.getElem_mem hj)
    exact ⟨i1, b4, by have := hlen.2.2.1; omega⟩
  obtain ⟨z, z1, z2⟩ := hst2
  rw [z1] at hx7
  refine ⟨by omega, ?_, ?_⟩
  · rw [hx7]
    have f4 : ∀ j, j ≠ 8 → j ≠ 7 → j ≠ 4 → j ≠ 5 → m_up F4 91 8 (z : Int) 91 j = F1 91 j := fun j x y z' u => by
      rw [u_ne (Or.inr x), e3, u_ne (Or.inr y), u_ne (Or.inr z'), u_ne (Or.inl (by decide)), u_ne (Or.inl (by decide)), u_ne (Or.inr u)]
      exact g91 j
    unfold ren
    refine ⟨?_, by show fs.length + 1 ≤ 4; omega, ⟨?_, ?_, by show (vs.drop k).length ≤ 800; rw [List.length_drop]; omega⟩, ?_, ?_, ?_⟩
    · rw [u_ne (Or.inr (by decide)), e3, u_ne (Or.inr (by decide)), u_eq]
      show (fs.length : Int) + 1 = ((fs.length + 1 : Nat) : Int)
      omega
    · rw [u_ne (Or.inr (by decide)), e3, u_ne (Or.inr (by decide)), u_ne (Or.inr (by decide)), u_ne (Or.inl (by decide)), u_ne (Or.inl (by decide)), u_eq]
      show ((vs.length - k : Nat) : Int) = ((vs.drop k).length : Int)
      rw [List.length_drop]
    · intro i hi
      have e93 : m_up F4 91 8 (z : Int) 93 i = F1 93 i := by rw [u_ne (Or.inl (by decide)), ne 93 i (by decide) (by decide) (by decide), hz 93 (by decide)]
      rw [e93]
      have e1 : vs.reverse = (vs.drop k).reverse ++ (vs.take k).reverse := by rw [← List.reverse_append, List.take_append_drop]
      rw [e1] at hA
      exact hA.pre i hi
    · rw [f4 6 (by decide) (by decide) (by decide) (by decide)]; exact h6
    · rw [f4 9 (by decide) (by decide) (by decide) (by decide)]; exact h9
    · have es : fstp X v = z := by unfold fstp; rw [z1, Int.toNat_natCast]
      have em : min (ppar X v).toNat k = min m k := by rw [epar, Int.toNat_natCast]
      rw [es, em]
      have n92 : ∀ i, m_up F4 91 8 (z : Int) 92 i = G 92 i := fun i => by rw [u_ne (Or.inl (by decide)), ne 92 i (by decide) (by decide) (by decide)]
      refine ⟨?_, u_eq, fun t ht => by rw [n92]; exact hs t ht, by show v / 200 < 3; omega, by show z ≤ 40000; omega, ?_⟩
      · rw [u_ne (Or.inr (by decide)), e3, u_eq]
        show (v : Int) / 200 = ((v / 200 : Nat) : Int)
        omega
      · show lowF _ fs
        have low94 : ∀ i, i ≠ fs.length → m_up F4 91 8 (z : Int) 94 i = F1 94 i ∧ m_up F4 91 8 (z : Int) 95 i = F1 95 i := fun i hi => by
          refine ⟨?_, ?_⟩
          · rw [u_ne (Or.inl (by decide)), e3, u_ne (Or.inl (by decide)), u_ne (Or.inl (by decide)), u_ne (Or.inl (by decide)), u_ne (Or.inr hi), u_ne (Or.inl (by decide)), hz 94 (by decide)]
          · rw [u_ne (Or.inl (by decide)), e3, u_ne (Or.inl (by decide)), u_ne (Or.inl (by decide)), u_ne (Or.inr hi), u_ne (Or.inl (by decide)), u_ne (Or.inl (by decide)), hz 95 (by decide)]
        cases fs with
        | nil => trivial
        | cons a r =>
          obtain ⟨t1, t2, t3, t4, t5, t6⟩ := hL
          try rw [List.length_cons] at low94
          try rw [List.length_cons] at ho
          try rw [List.length_cons] at e3
          refine ⟨?_, ?_, fun t ht => ?_, t4, t5, ?_⟩
          · rw [u_ne (Or.inl (by decide)), e3, u_ne (Or.inl (by decide)), u_ne (Or.inl (by decide)), u_eq]; exact t1
          · rw [u_ne (Or.inl (by decide)), e3, u_ne (Or.inl (by decide)), u_ne (Or.inl (by decide)), u_ne (Or.inl (by decide)), u_eq]; exact t2
          · rw [n92, ho _ (by omega)]; exact t3 t ht
          · refine lowF.cong r t6 (fun c i h => ?_)
            rcases h with ⟨rfl, h⟩ | ⟨rfl | rfl, h⟩
            · rw [n92, ho _ (by omega)]
            · exact (low94 i (by omega)).1
            · exact (low94 i (by omega)).2
  · exact r3.up (by unfold RunP; omega)
end Md1
