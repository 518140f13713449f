/-! COMPLETIONS, OF THE CLASS: the names of the open blocks, all -/
def yst (X : Nat → List Int) (f m : Nat) : PS := pre (mK (ks X f) m 24) 600 (0, [], [], [], [], [])
def lid (f : Nat) (t : Int) : Nat := 200 * f + t.toNat
def lcs (X : Nat → List Int) (f m : Nat) : List Nat := if (yst X f m).2.1 = [] then [] else (cand (sat (yst X f m).2.2.1 (yst X f m).2.2.1.length)).map (lid f)
def cmpl (X : Nat → List Int) (f m : Nat) (N : List Int) : List Nat := if bad X f m 0 = true then [] else (dd X [] (lcs X f m) ++ dd X [] (fns X f ++ fnsU X f (Uw X f))).filter (beg X N)
def oe (m : Nat) (w : Int) : Prop := wo w = 4 ∧ we w = 0 ∧ wt w = (m : Int)
def CgP (n : Nat) (F F' : MF) : Prop := (∀ c, c ≠ 96 → c ≠ 108 → ¬ (n + 8 ≤ c ∧ c ≤ n + 10) → F' c = F c) ∧ ∀ j, j ≠ 3 → F' 96 j = F 96 j
section Mi3
variable {F G : MF} {X : Nat → List Int} {K C C' : List Int} {f g k m n : Nat} {A L M : List Nat} {N : List Int}
theorem I1n (hn : n ∈ m_I1) : n = 1 ∨ n = 110 := by
  unfold m_I1 at hn
  rcases List.mem_cons.mp hn with h | h
  · exact Or.inl h
  · exact Or.inr (List.mem_singleton.mp h)
theorem FP.gp (h : FP F G) : CgP n F G := ⟨fun c a b _ => h.1 c a b, h.2⟩
theorem CgP.rf : CgP n F F := ⟨fun _ _ _ _ => rfl, fun _ _ => rfl⟩
theorem CgP.tr {H : MF} (h : CgP n F G) (k : CgP n G H) : CgP n F H := ⟨fun c a b d => (k.1 c a b d).trans (h.1 c a b d), fun j a => (k.2 j a).trans (h.2 j a)⟩
theorem CgP.dtt (hn : n ∈ m_I1) (h : CgP n F G) (hD : DTT F n X) : DTT G n X := by
  have hn2 := I1n hn
  refine DTT.fr (P := fun c => c = 96 ∨ c = 108 ∨ (n + 8 ≤ c ∧ c ≤ n + 10)) hD (fun c hc => h.1 c (fun e => hc (Or.inl e)) (fun e => hc (Or.inr (Or.inl e))) (fun e => hc (Or.inr (Or.inr e)))) (fun c hc => ?_)
  omega
theorem mK24 (hm : m ≤ K.length) (i : Nat) (h : kn (mK K m 24) i ≠ 24) : i < m ∧ kn (mK K m 24) i = kn K i := by
  by_cases c : i < m
  · exact ⟨c, mK_lt hm c⟩
  · exfalso
    by_cases c2 : i = m
    · rw [c2, mK_at hm] at h; exact h rfl
    · rw [mK_end hm (by omega)] at h; exact h rfl
theorem WC.tk {w : Int} (hm : m ≤ K.length) (h : WC (mK K m 24) w) : WC K w := by
  obtain ⟨o, t, e, h1, h2, h3⟩ := h
  have z : ∀ i, kn (mK K m 24) i = 0 → kn K i = 0 := fun i hi => by
    rw [← (mK24 hm i (by rw [hi]; decide)).2]; exact hi
  refine ⟨o, t, e, h1, h2, ?_⟩
  rcases h3 with (⟨a, b, c⟩ | ⟨a, b⟩ | a) | ⟨a, b⟩ | ⟨a, b⟩ | a | a | ⟨a, b⟩
  · have hk : kn (mK K m 24) t ≠ 24 := by unfold kp at c; omega
    have := (mK24 hm t hk).2
    unfold kp at c
    rw [this] at c
    exact Or.inl (Or.inl ⟨a, b, c⟩)
  · exact Or.inl (Or.inr (Or.inl ⟨a, z t b⟩))
  · exact Or.inl (Or.inr (Or.inr a))
  · exact Or.inr (Or.inl ⟨a, z t b⟩)
  · exact Or.inr (Or.inr (Or.inl ⟨a, fun i hi => z _ (b i hi)⟩))
  · exact Or.inr (Or.inr (Or.inr (Or.inl a)))
  · exact Or.inr (Or.inr (Or.inr (Or.inr (Or.inl a))))
  · exact Or.inr (Or.inr (Or.inr (Or.inr (Or.inr ⟨a, z t b⟩))))
theorem parg (n : Nat) (a : Int) (i : Nat) (h : i < ((List.range n).map (fun i : Nat => a + 2 + 2 * (i : Int))).length) : ((List.range n).map (fun i : Nat => a + 2 + 2 * (i : Int)))[i]'h = a + 2 + 2 * (i : Int) := by rw [List.getElem_map, List.getElem_range]
theorem dd_le : ∀ (M A : List Nat), (dd X A M).length ≤ A.length + M.length
  | [], A => Nat.le_refl _
  | y :: M, A => by
    have h1 := addT_len (X := X) (L := A) (k := y)
    have h2 := dd_le M (addT X A y)
    show (dd X (addT X A y) M).length ≤ A.length + (y :: M).length
    rw [List.length_cons]
    omega
/-- how many names there can be -/
theorem gy_cand : ∀ i, i ≤ C.length → 2 * (nms (sat C i)).length + 2 * (sat C i).2.2.2.toNat ≤ sm gy (C.take i)
  | 0, _ => Nat.zero_le _
  | i + 1, hi => by
    have ih := gy_cand i (by omega)
    rw [sm_snoc C i (by omega)]
    show 2 * (nms (sstep (sat C i) (gx C i))).length + 2 * (sstep (sat C i) (gx C i)).2.2.2.toNat ≤ _
    generalize sm gy (C.take i) = y at ih ⊢
    generalize sat C i = s at ih
    generalize gx C i = w
    unfold sstep gy nms
    unfold nms at ih
    rw [List.length_append] at ih
    by_cases h2 : wo w = 2
    · rw [if_pos h2, if_neg (by omega), if_pos h2]
      show 2 * 0 + 2 * (we w).toNat ≤ _
      omega
    · rw [if_neg h2]
      by_cases h3 : wo w = 3
      · rw [if_pos h3, if_neg (by omega), if_neg h2]
        show 2 * ([] ++ (s.1 ++ s.2.1.flatten)).length + 2 * s.2.2.2.toNat ≤ _
        rw [List.nil_append, List.length_append]
        omega
      · rw [if_neg h3]
        by_cases h4 : wo w = 4
        · rw [if_pos h4, if_neg (by omega), if_neg h2]
          obtain ⟨s1, s2, s3⟩ := s
          cases s2 with
          | nil =>
            show 2 * (s1 ++ ([] : List (List Int)).flatten).length + 2 * s3.2.toNat ≤ _
            rw [List.length_append]
            exact ih
          | cons b r =>
            show 2 * (b ++ r.flatten).length + 2 * s3.2.toNat ≤ _
            change 2 * (s1.length + (b ++ r.flatten).length) + 2 * s3.2.toNat ≤ _ at ih
            omega
        · rw [if_neg h4, if_neg h2]
          by_cases h7 : wo w = 7
          · rw [if_pos h7, if_pos h7]
            show 2 * (wt w :: (s.1 ++ s.2.1.flatten)).length + 2 * s.2.2.2.toNat ≤ _
            rw [List.length_cons, List.length_append]
            omega
          · rw [if_neg h7, if_neg h7, List.length_append]
            omega
theorem sat_kpw (h : kpw C C') : ∀ i, i ≤ C.length → sat C' i = sat C i
  | 0, _ => rfl
  | i + 1, hi => by
    have h1 := h.2 i (by omega)
    show sstep (sat C' i) (gx C' i) = sstep (sat C i) (gx C i)
    rw [sat_kpw h i (by omega)]
    by_cases c : wo (gx C i) = 11 ∨ wo (gx C i) = 12
    · unfold sstep
      rw [h1.1, if_neg (by omega), if_neg (by omega), if_neg (by omega), if_neg (by omega), if_neg (by omega), if_neg (by omega), if_neg (by omega), if_neg (by omega)]
    · rw [h1.2 (by omega) (by omega)]
theorem sat_app : ∀ i, i ≤ C.length → sat (C ++ C') i = sat C i := fun i hi => sat_kpw kpw.app i hi
/-- the first end of a block at END -/
theorem s_5 (hS : St F) (hC : F 98 1 = (C.length : Int) ∧ AL (F 99) C) (hl : C.length ≤ 640) (hw : W32 C) :
    C_5 (m : Int) F (fun r F' => F' = F ∧ ((r = -1 ∧ ∀ j, j < C.length → ¬ oe m (gx C j)) ∨ ∃ e : Nat, r = (e : Int) ∧ e < C.length ∧ oe m (gx C e) ∧ ∀ j, j < e → ¬ oe m (gx C j))) m_no := by
  refine c_5 hS ?_
  have key : ∀ (d i : Nat), i + d = C.length → (∀ j, j < i → ¬ oe m (gx C j)) → L_5_2 (m : Int) (i : Int) F (fun r F' => F' = F ∧ ((r = -1 ∧ ∀ j, j < C.length → ¬ oe m (gx C j)) ∨ ∃ e : Nat, r = (e : Int) ∧ e < C.length ∧ oe m (gx C e) ∧ ∀ j, j < e → ¬ oe m (gx C j))) m_no := by
    intro d
    induction d with
    | zero =>
      intro i hi hz
      refine b_5_2 hS ⟨fun h => by rw [hC.1] at h; omega, fun _ => ⟨rfl, Or.inl ⟨rfl, fun j hj => hz j (by omega)⟩⟩⟩
    | succ d ih =>
      intro i hi hz
      have hi2 : i < C.length := by omega
      have nx : ¬ oe m (gx C i) → L_5_2 (m : Int) ((i : Int) + 1) F (fun r F' => F' = F ∧ ((r = -1 ∧ ∀ j, j < C.length → ¬ oe m (gx C j)) ∨ ∃ e : Nat, r = (e : Int) ∧ e < C.length ∧ oe m (gx C e) ∧ ∀ j, j < e → ¬ oe m (gx C j))) m_no := fun h => by
        have := ih (i + 1) (by omega) (fun j hj => by
          by_cases e : j = i
          · rw [e]; exact h
          · exact hz j (by omega))
        rw [show ((i + 1 : Nat) : Int) = (i : Int) + 1 by omega] at this
        exact this
      refine b_5_2 hS ?_
      rw [hC.1, Int.toNat_natCast, hC.2 i hi2, g198 (hw i hi2), g200 (hw i hi2), g199 (hw i hi2)]
      exact ⟨fun _ => ⟨by omega, fun h4 => ⟨fun h0 => ⟨fun ht => ⟨rfl, Or.inr ⟨i, rfl, hi2, ⟨h4, h0, ht⟩, hz⟩⟩, fun ht => ⟨by omega, nx (fun h => ht h.2.2)⟩⟩, fun h0 => ⟨by omega, nx (fun h => h0 h.2.1)⟩⟩, fun h4 => ⟨by omega, nx (fun h => h4 h.1)⟩⟩, fun h => by omega⟩
  exact key C.length 0 (by omega) (fun j hj => absurd hj (Nat.not_lt_zero j))
theorem lid_vi (hf : f < 3) {T : List Int} (hT : TVs X f T) : ∀ y ∈ T.map (lid f), VI X y := by
  intro y hy
  obtain ⟨t, ht, rfl⟩ := List.mem_map.mp hy
  obtain ⟨k, rfl, h2⟩ := hT t ht
  exact ⟨f, k, hf, h2, by unfold lid; rw [Int.toNat_natCast]⟩
theorem gx_ap1 {A B : List Int} {t : Int} : gx (A ++ t :: B) A.length = t := by
  rw [gx_app, if_neg (by omega), Nat.sub_self]
  rfl
/-- the names of the open blocks, of a scope -/
theorem l_4 (hn : n ∈ m_I1) (hX : ∀ r, r < 24 → Rok (X r)) (hf : f < 3) {s : SS} (hT : TVs X f (cand s)) (hb : (cand s).length ≤ 100) (h1 : (nms s).length < 200) (hp : 0 ≤ s.2.2.2 ∧ s.2.2.2 < 1000 ∧ -1 ≤ s.2.2.1 ∧ s.2.2.1 < 256) : ∀ (V W : List Int) (G : MF) (L : List Nat), nms s = V ++ W → St G → DTT G n X → SCc G (n + 8) s → (∀ y ∈ L, VI X y) → FD G L → FP F G → dd X L (W.map (lid f) ++ (pars s).map (lid f)) = dd X [] ((cand s).map (lid f)) →
    L_4_65 n (f : Int) (n + 8) ((W.length : Int) - 1) G (fun F' => FD F' (dd X [] ((cand s).map (lid f))) ∧ FP F F') m_no := by
  have i7 := io_1_5 hn
  have hn2 := I1n hn
  have hlen : (dd X [] ((cand s).map (lid f))).length ≤ 100 := by
    have := dd_le (X := X) ((cand s).map (lid f)) []
    rw [List.length_map, List.length_nil] at this
    omega
  have hpl : (pars s).length = s.2.2.2.toNat := by unfold pars; rw [List.length_map, List.length_range]
  have scf : ∀ {G H : MF}, FP G H → SCc G (n + 8) s → SCc H (n + 8) s := fun {G H} h k => by
    unfold SCc at k ⊢
    rw [h.1 (n + 8) (by omega) (by omega), h.1 (n + 8 + 1) (by omega) (by omega), h.1 (n + 8 + 2) (by omega) (by omega)]
    exact k
  have par : ∀ (d i : Nat) (G : MF) (L : List Nat), i + d = (pars s).length → St G → DTT G n X → SCc G (n + 8) s → (∀ y ∈ L, VI X y) → FD G L → FP F G → dd X L (((pars s).drop i).map (lid f)) = dd X [] ((cand s).map (lid f)) →
      L_4_99 n (f : Int) (n + 8) (i : Int) G (fun F' => FD F' (dd X [] ((cand s).map (lid f))) ∧ FP F F') m_no := by
    intro d
    induction d with
    | zero =>
      intro i G L hi hS hD hs hL hF hP he
      rw [List.drop_eq_nil_of_le (by omega)] at he
      change L = _ at he
      have h5 : G (n + 8) 5 = s.2.2.2 := hs.2.2.2
      refine b_4_99 hn i7 hS ⟨fun h => by omega, fun _ => ⟨?_, hP⟩⟩
      rw [← he]
      exact hF
    | succ d ih =>
      intro i G L hi hS hD hs hL hF hP he
      have h5 : G (n + 8) 5 = s.2.2.2 := hs.2.2.2
      have h4 : G (n + 8) 4 = s.2.2.1 := hs.2.2.1
      have hi2 : i < (pars s).length := by omega
      have hpi : (pars s)[i]'hi2 = s.2.2.1 + 2 + 2 * (i : Int) := parg _ _ i hi2
      obtain ⟨k, t1, t2⟩ := hT _ (List.mem_append_right _ (List.getElem_mem hi2))
      rw [hpi] at t1
      rw [List.drop_eq_getElem_cons hi2, List.map_cons, hpi, t1] at he
      rw [dd_cons] at he
      change dd X (addT X L (200 * f + (k : Int).toNat)) _ = _ at he
      rw [Int.toNat_natCast] at he
      have hbl := dd_len (X := X) (((pars s).drop (i + 1)).map (lid f)) (addT X L (200 * f + k))
      rw [he] at hbl
      have hk := toks_len hX hf
      refine b_4_99 hn i7 hS ⟨fun _ => ⟨by omega, by omega, by omega, by omega, by omega, ?_⟩, fun h => by omega⟩
      rw [h4, show (f : Int) * 200 + s.2.2.1 + 2 + 2 * (i : Int) = ((200 * f + k : Nat) : Int) by omega]
      refine CaV.on (s_7 (A := []) hn hX hS hD hL hF hf t2 (by rw [List.length_nil]; omega)) ?_
      rintro G2 hS2 ⟨k1, k2⟩
      refine ⟨by omega, ?_⟩
      have := ih (i + 1) G2 (addT X L (200 * f + k)) (by omega) hS2 (k2.dtt hn hD) (scf k2 hs) (VI.add hL ⟨f, k, hf, t2, rfl⟩) k1 (hP.tr k2) he
      rw [show ((i + 1 : Nat) : Int) = (i : Int) + 1 by omega] at this
      exact this
  intro V W
  revert V
  induction W with
  | nil =>
    intro V G L hV hS hD hs hL hF hP he
    refine b_4_65 hn i7 hS ⟨fun _ => ?_, fun h => by rw [List.length_nil] at h; omega⟩
    exact par (pars s).length 0 G L (by omega) hS hD hs hL hF hP (by rw [List.drop_zero]; exact he)
  | cons t W ih =>
    intro V G L hV hS hD hs hL hF hP he
    obtain ⟨k, t1, t2⟩ := hT t (List.mem_append_left _ (by rw [hV]; exact List.mem_append_right _ List.mem_cons_self))
    have hk := toks_len hX hf
    have hvl : (nms s).length = V.length + (W.length + 1) := by rw [hV, List.length_append, List.length_cons]
    have hname : G (n + 8 + 1) W.length = t := by
      rw [hs.1.2 W.length (by rw [List.length_reverse]; omega), hV, List.reverse_append, List.reverse_cons, List.append_assoc, ← List.length_reverse (as := W)]
      exact gx_ap1
    rw [List.map_cons] at he
    change dd X (addT X L (200 * f + t.toNat)) (W.map (lid f) ++ (pars s).map (lid f)) = _ at he
    rw [t1, Int.toNat_natCast] at he
    have hbl := dd_len (X := X) (W.map (lid f) ++ (pars s).map (lid f)) (addT X L (200 * f + k))
    rw [he] at hbl
    rw [show ((t :: W).length : Int) - 1 = (W.length : Int) by rw [List.length_cons]; omega]
    refine b_4_65 hn i7 hS ⟨fun h => by omega, fun _ => ⟨by omega, by omega, ?_⟩⟩
    rw [Int.toNat_natCast, hname, t1, show (f : Int) * 200 + (k : Int) = ((200 * f + k : Nat) : Int) by omega]
    refine ⟨by omega, ?_⟩
    refine CaV.on (s_7 (A := []) hn hX hS hD hL hF hf t2 (by rw [List.length_nil]; omega)) ?_
    rintro G2 hS2 ⟨k1, k2⟩
    refine ⟨by omega, ?_⟩
    rw [show (W.length : Int) + -1 = (W.length : Int) - 1 by omega]
    exact ih (V ++ [t]) G2 (addT X L (200 * f + k)) (by rw [List.append_assoc]; exact hV) hS2 (k2.dtt hn hD) (scf k2 hs) (VI.add hL ⟨f, k, hf, t2, rfl⟩) k1 (hP.tr k2) he
/-- the words of a row of classes: what they are -/
theorem yst_ok (hX : ∀ r, r < 24 → Rok (X r)) (hf : f < 3) (hm : m ≤ (ks X f).length) :
    ((PI (mK (ks X f) m 24) (yst X f m) ∧ PV (mK (ks X f) m 24) (yst X f m) ∧ FV (yst X f m).2.2.1 (yst X f m).2.2.2.2.1 ∧ GYv (yst X f m) ∧ P4 m (yst X f m).2.2.1) ∧ (yst X f m).1 = m) ∧ ((yst X f m).2.1 = [] → (prs (mK (ks X f) m 24)).2.2.1 = (yst X f m).2.2.1) ∧ ((yst X f m).2.1 ≠ [] → kpw ((yst X f m).2.2.1 ++ [mk 4 m 0]) (prs (mK (ks X f) m 24)).2.2.1) := by
  have hl : (mK (ks X f) m 24).length = m := by rw [mK_len hm, if_pos rfl, Nat.add_zero]
  have hkl := ks_len hX hf
  have h := prs_end (K := mK (ks X f) m 24) (y := yst X f m) (by omega) (fun i hi => mK_no hm (fun i hi => ks_no hX hf hi) hi) rfl
  rw [hl] at h
  exact h
theorem lcs_ok (hX : ∀ r, r < 24 → Rok (X r)) (hf : f < 3) (hm : m ≤ (ks X f).length) : (∀ y ∈ lcs X f m, VI X y) ∧ (lcs X f m).length ≤ 97 := by
  have hkl := ks_len hX hf
  obtain ⟨⟨⟨-, h2, -, h4, -⟩, h6⟩, -⟩ := yst_ok hX hf hm
  unfold lcs
  split
  · exact ⟨fun y hy => absurd hy (List.not_mem_nil), Nat.zero_le _⟩
  · have so := sat_ok (C := (yst X f m).2.2.1) (fun i hi => WC.tk hm (h2.1.1 _ (gx_mem hi))) hX hf _ (Nat.le_refl _)
    refine ⟨lid_vi hf so.2.2.1, ?_⟩
    have gc := gy_cand (C := (yst X f m).2.2.1) _ (Nat.le_refl _)
    rw [List.take_length] at gc
    unfold GYv at h4
    rw [List.length_map]
    unfold cand pars
    rw [List.length_append, List.length_map, List.length_range]
    omega
end Mi3
