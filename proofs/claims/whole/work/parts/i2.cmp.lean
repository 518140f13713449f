/-! COMPLETIONS: as they are meant; of the class -/
def TXi (X : Nat → List Int) (y : Nat) : List Int := tx X (y / 200) (y % 200)
def hasT (X : Nat → List Int) (L : List Nat) (y : Nat) : Bool := L.any (fun z => decide (TXi X z = TXi X y))
def addT (X : Nat → List Int) (L : List Nat) (y : Nat) : List Nat := if hasT X L y = true then L else L ++ [y]
def dd (X : Nat → List Int) : List Nat → List Nat → List Nat
  | A, [] => A
  | A, y :: L => dd X (addT X A y) L
def VI (X : Nat → List Int) (y : Nat) : Prop := ∃ g h : Nat, g < 3 ∧ h < (toks X g).length ∧ y = 200 * g + h
/-- the functions of a file, of those that it uses -/
def fns (X : Nat → List Int) (g : Nat) : List Nat := (Fw X g).map (fun e => 200 * g + e.1.toNat)
def fnsI (X : Nat → List Int) (g : Int) : List Nat := if 0 ≤ g ∧ g < 3 then fns X g.toNat else []
def fnsU (X : Nat → List Int) (f : Nat) : List Int → List Nat
  | [] => []
  | u :: U => fnsI X (uf X f u.toNat) ++ fnsU X f U
/-- what begins with some letters -/
def beg (X : Nat → List Int) (N : List Int) (y : Nat) : Bool := decide (N.length ≤ (TXi X y).length ∧ (TXi X y).take N.length = N)
/-- the rows that were found -/
def FD (F : MF) (L : List Nat) : Prop := F 96 3 = (L.length : Int) ∧ AL (F 108) (ndc L)
def FP (F F' : MF) : Prop := (∀ c, c ≠ 96 → c ≠ 108 → F' c = F c) ∧ ∀ j, j ≠ 3 → F' 96 j = F 96 j
section Mi2
variable {F G : MF} {X : Nat → List Int} {f g k m n : Nat} {A L M : List Nat} {N : List Int}
theorem VI.at (hX : ∀ r, r < 24 → Rok (X r)) (hg : g < 3) (hk : k < (toks X g).length) : TXi X (200 * g + k) = tx X g k := by
  have := toks_len hX hg
  unfold TXi
  rw [show (200 * g + k) / 200 = g by omega, show (200 * g + k) % 200 = k by omega]
theorem FP.rf : FP F F := ⟨fun _ _ _ => rfl, fun _ _ => rfl⟩
theorem FP.tr {H : MF} (h : FP F G) (k : FP G H) : FP F H := ⟨fun c a b => (k.1 c a b).trans (h.1 c a b), fun j a => (k.2 j a).trans (h.2 j a)⟩
theorem FP.dtt (hn : n ∈ m_I1) (h : FP F G) (hD : DTT F n X) : DTT G n X := by
  have hn2 : n = 1 ∨ n = 110 := by
    unfold m_I1 at hn
    rcases List.mem_cons.mp hn with h | h
    · exact Or.inl h
    · exact Or.inr (List.mem_singleton.mp h)
  refine DTT.fr (P := fun c => c = 96 ∨ c = 108) hD (fun c hc => h.1 c (fun e => hc (Or.inl e)) (fun e => hc (Or.inr e))) (fun c hc => ?_)
  omega
theorem addT_len : L.length ≤ (addT X L k).length ∧ (addT X L k).length ≤ L.length + 1 := by
  unfold addT
  split
  · omega
  · rw [List.length_append, List.length_singleton]; omega
theorem dd_len : ∀ (M A : List Nat), A.length ≤ (dd X A M).length
  | [], A => Nat.le_refl _
  | y :: M, A => by
    have h1 := addT_len (X := X) (L := A) (k := y)
    have h2 := dd_len M (addT X A y)
    show A.length ≤ (dd X (addT X A y) M).length
    omega
theorem dd_app : ∀ (M A B : List Nat), dd X A (M ++ B) = dd X (dd X A M) B
  | [], A, B => rfl
  | y :: M, A, B => dd_app M (addT X A y) B
theorem addT_mem {y z : Nat} (h : z ∈ addT X L y) : z ∈ L ∨ z = y := by
  unfold addT at h
  split at h
  · exact Or.inl h
  · rcases List.mem_append.mp h with h | h
    · exact Or.inl h
    · exact Or.inr (List.mem_singleton.mp h)
theorem dd_mem : ∀ (M A : List Nat) (z : Nat), z ∈ dd X A M → z ∈ A ∨ z ∈ M
  | [], A, z, h => Or.inl h
  | y :: M, A, z, h => by
    rcases dd_mem M (addT X A y) z h with h | h
    · rcases addT_mem h with h | h
      · exact Or.inl h
      · exact Or.inr (h ▸ List.mem_cons_self)
    · exact Or.inr (List.mem_cons_of_mem _ h)
theorem gx_ndc {i : Nat} (h : i < L.length) : gx (ndc L) i = ((L[i]'h : Nat) : Int) := by
  unfold gx ndc
  rw [List.getD_eq_getElem?_getD, List.getElem?_map, List.getElem?_eq_getElem h]
  rfl
/-- one name more -/
theorem s_7 (hn : n ∈ m_I1) (hX : ∀ r, r < 24 → Rok (X r)) (hS : St F) (hD : DTT F n X) (hA : ∀ y ∈ L, VI X y) (hF : FD F (A ++ L)) (hg : g < 3) (hk : k < (toks X g).length) (hb : A.length + (addT X L (200 * g + k)).length ≤ 300) :
    C_7 n ((200 * g + k : Nat) : Int) (A.length : Int) F (fun F' => FD F' (A ++ addT X L (200 * g + k)) ∧ FP F F') m_no := by
  have hk2 := toks_len hX hg
  have key : ∀ (d i : Nat), i + d = L.length → (∀ z ∈ L.take i, ¬ TXi X z = TXi X (200 * g + k)) → L_7_3 n ((200 * g + k : Nat) : Int) ((A.length + i : Nat) : Int) F (fun F' => FD F' (A ++ addT X L (200 * g + k)) ∧ FP F F') m_no := by
    intro d
    induction d with
    | zero =>
      intro i hi hz
      obtain rfl : i = L.length := by omega
      rw [List.take_length] at hz
      have e : addT X L (200 * g + k) = L ++ [200 * g + k] := by
        unfold addT
        rw [if_neg]
        intro h
        obtain ⟨z, h1, h2⟩ := List.any_eq_true.mp h
        exact hz z h1 (of_decide_eq_true h2)
      rw [e, List.length_append, List.length_singleton] at hb
      rw [e]
      refine b_7_3 hn hS ?_
      rw [hF.1, List.length_append]
      refine ⟨fun h => by omega, fun _ => ⟨fun _ => ⟨by omega, by omega, ⟨?_, ?_⟩, fun c h1 h2 => by rw [up_row h1, up_row h2], fun j hj => by rw [u_ne (Or.inr hj), u_ne (Or.inl (by decide))]⟩, fun h => by omega⟩⟩
      · rw [u_eq, List.length_append, List.length_append, List.length_singleton]
        omega
      · rw [up_row (by decide), ← List.append_assoc, ndc_app, Int.toNat_natCast, ← List.length_append, ← ndc_len (L1 := A ++ L)]
        exact hF.2.up1
    | succ d ih =>
      intro i hi hz
      have hi2 : i < L.length := by omega
      have hal := addT_len (X := X) (L := L) (k := 200 * g + k)
      obtain ⟨g2, h2, v1, v2, v3⟩ := hA _ (List.getElem_mem hi2)
      have hz2 : F 108 (A.length + i) = ((200 * g2 + h2 : Nat) : Int) := by
        have := hF.2 (A.length + i) (by rw [ndc_len, List.length_append]; omega)
        rw [this, gx_ndc (by rw [List.length_append]; omega), List.getElem_append_right (by omega)]
        congr 1
        rw [← v3]
        congr 1
        omega
      refine b_7_3 hn hS ?_
      rw [hF.1, List.length_append]
      refine ⟨fun _ => ⟨by omega, ?_⟩, fun h => by omega⟩
      rw [Int.toNat_natCast, hz2]
      refine CaI.on (s_17 hn hS hX hD.dt.1 hD.dt.2 v1 hg v2 hk) ?_
      rintro r G hSG ⟨rfl, rfl⟩
      refine ⟨fun h0 => ⟨by omega, ?_⟩, fun h0 => ?_⟩
      · have := ih (i + 1) (by omega) (fun z hz3 => by
          rw [List.take_succ_eq_append_getElem hi2] at hz3
          rcases List.mem_append.mp hz3 with h | h
          · exact hz z h
          · rw [List.mem_singleton.mp h, v3, VI.at hX v1 v2, VI.at hX hg hk]
            intro e
            rw [decide_eq_true e] at h0
            exact absurd h0 (by decide))
        rw [show ((A.length + (i + 1) : Nat) : Int) = ((A.length + i : Nat) : Int) + 1 by omega] at this
        exact this
      · have e : addT X L (200 * g + k) = L := by
          unfold addT
          rw [if_pos]
          refine List.any_eq_true.mpr ⟨_, List.getElem_mem hi2, ?_⟩
          rw [v3, VI.at hX v1 v2, VI.at hX hg hk]
          refine decide_eq_true ?_
          by_cases e : tx X g2 h2 = tx X g k
          · exact e
          · rw [decide_eq_false e] at h0
            exact absurd rfl h0
        rw [e]
        exact ⟨hF, FP.rf⟩
  have := key L.length 0 (by omega) (fun z hz => by rw [List.take_zero] at hz; exact absurd hz (List.not_mem_nil))
  rw [Nat.add_zero] at this
  exact c_7 hn hS this
theorem VI.add {y : Nat} (hA : ∀ y ∈ L, VI X y) (h : VI X y) : ∀ z ∈ addT X L y, VI X z := fun z hz => by
  rcases addT_mem hz with h1 | h1
  · exact hA z h1
  · rw [h1]; exact h
theorem VI.dd (hA : ∀ y ∈ L, VI X y) (h : ∀ y ∈ M, VI X y) : ∀ z ∈ dd X L M, VI X z := fun z hz => (dd_mem M L z hz).elim (hA z) (h z)
theorem fns_vi (hX : ∀ r, r < 24 → Rok (X r)) (hg : g < 3) : ∀ y ∈ fns X g, VI X y := by
  intro y hy
  obtain ⟨e, he, rfl⟩ := List.mem_map.mp hy
  obtain ⟨p, q, i, h1, h2, -, -, -, -, h3⟩ := Fw_tok hX hg he
  have h4 := h3 0 (Nat.zero_le _)
  rw [Nat.mul_zero, Nat.add_zero] at h4
  exact ⟨g, p, hg, kn_tok (by rw [h4]; decide), by rw [h2, Int.toNat_natCast]⟩
theorem fnsI_vi (hX : ∀ r, r < 24 → Rok (X r)) {x : Int} : ∀ y ∈ fnsI X x, VI X y := by
  unfold fnsI
  split
  · next h => exact fns_vi hX (by omega)
  · exact fun y hy => absurd hy (List.not_mem_nil)
theorem dd_cons {y : Nat} : dd X A (y :: M) = dd X (addT X A y) M := rfl
theorem fnsg (W : FF) (i : Nat) (h : i < (W.map (fun e => 200 * g + e.1.toNat)).length) (h2 : i < W.length) : (W.map (fun e => 200 * g + e.1.toNat))[i]'h = 200 * g + (W[i]'h2).1.toNat := by rw [List.getElem_map]
/-- the functions of a file -/
theorem s_6 {x : Int} (hn : n ∈ m_I1) (hX : ∀ r, r < 24 → Rok (X r)) (hS : St F) (hD : DTT F n X) (hA : ∀ y ∈ L, VI X y) (hF : FD F (A ++ L)) (hb : A.length + (dd X L (fnsI X x)).length ≤ 300) :
    C_6 n x (A.length : Int) F (fun F' => FD F' (A ++ dd X L (fnsI X x)) ∧ FP F F') m_no := by
  refine c_6 hn hS ⟨fun h => ?_, fun h => ⟨fun h2 => ⟨by omega, ?_⟩, fun h2 => ?_⟩⟩
  · rw [show fnsI X x = [] from if_neg (by omega)]
    exact ⟨hF, FP.rf⟩
  · obtain ⟨g, rfl⟩ : ∃ g : Nat, x = (g : Int) := ⟨x.toNat, by omega⟩
    have hg : g < 3 := by omega
    rw [Int.toNat_natCast]
    have efn : fnsI X (g : Int) = fns X g := by unfold fnsI; rw [if_pos (by omega), Int.toNat_natCast]
    rw [efn] at hb ⊢
    have hl := (Fw_len hX hg).1
    have i9 := i9_of hn hg
    have key : ∀ (d i : Nat) (G : MF) (M : List Nat), i + d = (fns X g).length → St G → DTT G n X → (∀ y ∈ M, VI X y) → FD G (A ++ M) → FP F G → dd X M ((fns X g).drop i) = dd X L (fns X g) → L_6_21 n (g : Int) (A.length : Int) (n + (20 + 19 * g)) (i : Int) G (fun F' => FD F' (A ++ dd X L (fns X g)) ∧ FP F F') m_no := by
      intro d
      induction d with
      | zero =>
        intro i G M hi hSG hDG hM hFG hP he
        have hc : G (n + (20 + 19 * g)) 10 = ((Fw X g).length : Int) := (hDG.2 g hg).2.2.2.1.1
        have hfl : (fns X g).length = (Fw X g).length := by unfold fns; rw [List.length_map]
        rw [List.drop_eq_nil_of_le (by omega)] at he
        refine b_6_21 hn i9 hSG ?_
        rw [hc]
        refine ⟨fun h => by omega, fun _ => ⟨?_, hP⟩⟩
        rw [← he]
        exact hFG
      | succ d ih =>
        intro i G M hi hSG hDG hM hFG hP he
        have hc : G (n + (20 + 19 * g)) 10 = ((Fw X g).length : Int) := (hDG.2 g hg).2.2.2.1.1
        have hfl : (fns X g).length = (Fw X g).length := by unfold fns; rw [List.length_map]
        have hi2 : i < (Fw X g).length := by omega
        have hi3 : i < (fns X g).length := by omega
        have hv : G (n + (20 + 19 * g) + 5) i = ((Fw X g)[i]'hi2).1 := by
          have h9 : G (n + (20 + 19 * g) + 5) i = gx ((Fw X g).map (fun e => e.1)) i := (hDG.2 g hg).2.2.2.1.2.1 i (by rw [List.length_map]; exact hi2)
          rw [h9, ge_map hi2]
        obtain ⟨p, q, j, -, h2, -, -, -, -, h3⟩ := Fw_tok hX hg (List.getElem_mem hi2)
        have h4 := h3 0 (Nat.zero_le _)
        rw [Nat.mul_zero, Nat.add_zero] at h4
        have hp : p < (toks X g).length := kn_tok (by rw [h4]; decide)
        have hpl := toks_len hX hg
        have ed : (fns X g).drop i = (200 * g + p) :: (fns X g).drop (i + 1) := by
          have e0 : (fns X g)[i]'hi3 = 200 * g + ((Fw X g)[i]'hi2).1.toNat := fnsg (Fw X g) i hi3 hi2
          rw [List.drop_eq_getElem_cons hi3, e0, h2, Int.toNat_natCast]
        rw [ed, dd_cons] at he
        have hbl := dd_len (X := X) ((fns X g).drop (i + 1)) (addT X M (200 * g + p))
        rw [he] at hbl
        refine b_6_21 hn i9 hSG ?_
        rw [hc, Int.toNat_natCast, hv, h2]
        refine ⟨fun _ => ⟨by omega, by omega, by omega, ?_⟩, fun h => by omega⟩
        rw [show (g : Int) * 200 + (p : Int) = ((200 * g + p : Nat) : Int) by omega]
        refine CaV.on (s_7 hn hX hSG hDG hM hFG hg hp (by omega)) ?_
        rintro G2 hS2 ⟨k1, k2⟩
        refine ⟨by omega, ?_⟩
        have := ih (i + 1) G2 (addT X M (200 * g + p)) (by omega) hS2 (k2.dtt hn hDG) (VI.add hM ⟨g, p, hg, hp, rfl⟩) k1 (hP.tr k2) he
        rw [show ((i + 1 : Nat) : Int) = (i : Int) + 1 by omega] at this
        exact this
    exact key (fns X g).length 0 F L (by omega) hS hD hA hF FP.rf (by rw [List.drop_zero])
  · rw [show fnsI X x = [] from if_neg (by omega)]
    exact ⟨hF, FP.rf⟩
/-- whether a name begins with the letters -/
theorem s_9 {n2 z2 : Nat} (hn : n ∈ m_I1) (h2 : m_KD[n2]? = some (102, z2)) (hX : ∀ r, r < 24 → Rok (X r)) (hS : St F) (hD : DTT F n X) (hN : AL (F n2) N) (hNl : N.length ≤ z2) (hz : z2 < 1000) (hg : g < 3) (hk : k < (toks X g).length) :
    C_9 n ((200 * g + k : Nat) : Int) n2 (N.length : Int) F (fun r F' => r = bi (beg X N (200 * g + k)) ∧ F' = F) m_no := by
  have lk := toks_len hX hg
  have e1 : ((200 * g + k : Nat) : Int) / 200 = (g : Int) := by omega
  have e2 : ((200 * g + k : Nat) : Int) % 200 = (k : Int) := by omega
  have hG := hD.dt.2 g hg
  have tg := gac_tok hG hk
  have o2 := toks_ok hk
  have hr2 : 8 * g + tl X g k < 24 := by omega
  have w2 := hD.1.le hr2
  have n4 := i8_of hn hg
  have eb : beg X N (200 * g + k) = decide (N.length ≤ ts X g k ∧ (tx X g k).take N.length = N) := by
    unfold beg
    rw [VI.at hX hg hk, tx_len]
  refine c_9 hn h2 hS ?_
  rw [e1, e2, Int.toNat_natCast, Int.toNat_natCast, tg.2.2.2, tg.2.1]
  refine ⟨by omega, by omega, by omega, fun h => by omega, fun _ => ⟨by omega, fun h => ⟨?_, rfl⟩, fun h => ⟨by omega, by omega, by omega, by omega, ?_⟩⟩⟩
  · rw [eb, decide_eq_false (fun e => by omega)]
    rfl
  · have key : ∀ (d i : Nat), i + d = N.length → (∀ j, j < i → chr X g k j = gx N j) → L_9_61 n n2 (N.length : Int) (n + (11 + 19 * g)) (k : Int) ((8 * g + tl X g k : Nat) : Int) (i : Int) F (fun r F' => r = bi (beg X N (200 * g + k)) ∧ F' = F) m_no := by
      intro d
      induction d with
      | zero =>
        intro i hi hj
        refine b_9_61 hn h2 n4 hS ⟨fun h => by omega, fun _ => ⟨?_, rfl⟩⟩
        rw [eb, decide_eq_true]
        · rfl
        · refine ⟨by omega, gx_ext ?_ (fun j hj2 => ?_)⟩
          · rw [List.length_take, tx_len]; omega
          · rw [List.length_take, tx_len] at hj2
            rw [gx_take _ _ _ (by omega), tx_gx (by omega), hj j (by omega)]
      | succ d ih =>
        intro i hi hj
        refine b_9_61 hn h2 n4 hS ⟨fun _ => ?_, fun h => by omega⟩
        rw [Int.toNat_natCast, tg.2.2.1, show (tc X g k : Int) + (i : Int) = ((tc X g k + i : Nat) : Int) by omega]
        have q2 := q_22t hD.1 hX hg hk (i := i) (by omega)
        rw [q2.1, Int.toNat_natCast, hN i (by omega), show (i : Int) + 1 = ((i + 1 : Nat) : Int) by omega]
        refine ⟨by omega, by omega, q2.2, by omega, fun e => ⟨by omega, ih (i + 1) (by omega) (fun j hj2 => ?_)⟩, fun e => ⟨?_, rfl⟩⟩
        · by_cases e3 : j = i
          · rw [e3]; exact e
          · exact hj j (by omega)
        · rw [eb, decide_eq_false]
          · rfl
          · rintro ⟨h3, h4⟩
            have h5 : gx ((tx X g k).take N.length) i = gx N i := by rw [h4]
            rw [gx_take _ _ _ (by omega), tx_gx (by omega)] at h5
            exact e h5
    have := key N.length 0 (by omega) (fun j hj => absurd hj (Nat.not_lt_zero j))
    rw [show (g : Int) * 8 + (tl X g k : Int) = ((8 * g + tl X g k : Nat) : Int) by omega]
    exact this
/-- those that begin with the letters are kept -/
theorem s_8 {n2 z2 : Nat} (hn : n ∈ m_I1) (h2 : m_KD[n2]? = some (102, z2)) (h96 : n2 ≠ 108) (h97 : n2 ≠ 96) (hX : ∀ r, r < 24 → Rok (X r)) (hS : St F) (hD : DTT F n X) (hN : AL (F n2) N) (hNl : N.length ≤ z2) (hz : z2 < 1000) (hL : ∀ y ∈ L, VI X y) (hF : FD F L) (hb : L.length ≤ 300) :
    C_8 n n2 (N.length : Int) F (fun F' => FD F' (L.filter (beg X N)) ∧ FP F F') m_no := by
  refine c_8 hn h2 hS ?_
  have key : ∀ (d i : Nat) (G : MF), i + d = L.length → St G → (∀ c, c ≠ 108 → G c = F c) → (∀ j, j < ((L.take i).filter (beg X N)).length → G 108 j = gx (ndc ((L.take i).filter (beg X N))) j) → (∀ j, i ≤ j → j < L.length → G 108 j = F 108 j) →
      L_8_6 n n2 (N.length : Int) (((L.take i).filter (beg X N)).length : Int) (i : Int) G (fun F' => FD F' (L.filter (beg X N)) ∧ FP F F') m_no := by
    intro d
    induction d with
    | zero =>
      intro i G hi hSG hz2 hk hr
      obtain rfl : i = L.length := by omega
      rw [List.take_length] at hk ⊢
      refine b_8_6 hn h2 hSG ?_
      rw [hz2 96 (by decide), hF.1]
      refine ⟨fun h => by omega, fun _ => ⟨⟨u_eq, ?_⟩, fun c h1 h3 => by rw [up_row h1, hz2 c h3], fun j hj => by rw [u_ne (Or.inr hj), hz2 96 (by decide)]⟩⟩
      rw [up_row (by decide)]
      exact fun j hj => hk j (by rw [ndc_len] at hj; exact hj)
    | succ d ih =>
      intro i G hi hSG hz2 hk hr
      have hi2 : i < L.length := by omega
      obtain ⟨g2, k2, v1, v2, v3⟩ := hL _ (List.getElem_mem hi2)
      have hv : G 108 i = ((200 * g2 + k2 : Nat) : Int) := by
        rw [hr i (Nat.le_refl _) hi2, hF.2 i (by rw [ndc_len]; exact hi2), gx_ndc hi2, v3]
      have ht : (L.take (i + 1)).filter (beg X N) = (L.take i).filter (beg X N) ++ (if beg X N (200 * g2 + k2) = true then [200 * g2 + k2] else []) := by
        rw [List.take_succ_eq_append_getElem hi2, List.filter_append, v3, List.filter_cons, List.filter_nil]
      have hfl : ((L.take i).filter (beg X N)).length ≤ i := by
        have h1 := List.length_filter_le (beg X N) (L.take i)
        have h3 := List.length_take_le i L
        omega
      refine b_8_6 hn h2 hSG ?_
      rw [hz2 96 (by decide), hF.1, Int.toNat_natCast, hv]
      refine ⟨fun _ => ⟨by omega, ?_⟩, fun h => by omega⟩
      refine CaI.on (s_9 (N := N) hn h2 hX hSG (hD.fr (P := fun c => c = 108) (fun c hc => hz2 c hc) (fun c hc => ?_)) (by rw [hz2 n2 h96]; exact hN) hNl hz v1 v2) ?_
      · have hn2 : n = 1 ∨ n = 110 := by
          unfold m_I1 at hn
          rcases List.mem_cons.mp hn with h | h
          · exact Or.inl h
          · exact Or.inr (List.mem_singleton.mp h)
        omega
      rintro r G2 hS2 ⟨rfl, rfl⟩
      have nx := ih (i + 1)
      rw [ht, show ((i + 1 : Nat) : Int) = (i : Int) + 1 by omega] at nx
      cases hbg : beg X N (200 * g2 + k2) with
      | false =>
        rw [hbg, if_neg (by decide), List.append_nil] at nx
        exact ⟨fun _ => ⟨by omega, nx G2 (by omega) hS2 hz2 hk (fun j a b => hr j (by omega) b)⟩, fun h => absurd rfl h⟩
      | true =>
        rw [hbg, if_pos rfl, List.length_append, List.length_singleton] at nx
        refine ⟨fun h => absurd h (by decide), fun _ => ⟨by omega, by omega, by omega, by omega, ?_⟩⟩
        rw [hv, Int.toNat_natCast, show (((L.take i).filter (beg X N)).length : Int) + 1 = ((((L.take i).filter (beg X N)).length + 1 : Nat) : Int) by omega]
        refine nx _ (by omega) (hS2.arr kd_108 (by decide)) (fun c hc => by rw [up_row hc, hz2 c hc]) (fun j hj => ?_) (fun j a b => by rw [u_ne (Or.inr (by omega)), hr j (by omega) b])
        rw [ndc_app, gx_app, ndc_len]
        by_cases c : j < ((L.take i).filter (beg X N)).length
        · rw [u_ne (Or.inr (by omega)), if_pos c, hk j c]
        · obtain rfl : j = ((L.take i).filter (beg X N)).length := by omega
          rw [u_eq, if_neg c, Nat.sub_self]
          rfl
  have := key L.length 0 F (by omega) hS (fun _ _ => rfl) (fun j hj => absurd hj (by rw [List.take_zero]; exact Nat.not_lt_zero j)) (fun _ _ _ => rfl)
  rw [List.take_zero] at this
  exact this
end Mi2
