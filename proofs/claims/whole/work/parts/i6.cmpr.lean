/-! COMPLETIONS, OF THE REFERENCE: names that begin with the letters -/
/-- texts and tokens of the reference -/
def TL (F : MF) (X : Nat → List Int) : Prop := TxM F X ∧ ∀ f, f < 3 → LexM F f X
def SpM (F : MF) (N : List Int) : Prop := F 201 6 = (N.length : Int) ∧ AL (F 206) N ∧ N.length ≤ 6
def FDr (F : MF) (L : List Nat) : Prop := F 201 94 = (L.length : Int) ∧ AL (F 264) (ndc L)
def FPr (F F' : MF) : Prop := (∀ c, c ≠ 201 → c ≠ 264 → F' c = F c) ∧ ∀ j, j ≠ 94 → F' 201 j = F 201 j
def addF (X : Nat → List Int) (N : List Int) (L : List Nat) (y : Nat) : List Nat := if beg X N y = true then addT X L y else L
section Mi6
variable {F G : MF} {X : Nat → List Int} {f g k m n : Nat} {A L M : List Nat} {N : List Int}
theorem FPr.rf : FPr F F := ⟨fun _ _ _ => rfl, fun _ _ => rfl⟩
theorem FPr.tr {H : MF} (h : FPr F G) (k : FPr G H) : FPr F H := ⟨fun c a b => (k.1 c a b).trans (h.1 c a b), fun j a => (k.2 j a).trans (h.2 j a)⟩
theorem TL.cg (h : TL F X) (e : ∀ c, 202 ≤ c → c ≤ 219 → G c = F c) : TL G X := ⟨by unfold TL TxM at *; rw [e 202 (by decide) (by decide), e 203 (by decide) (by decide)]; exact h.1, fun f hf => (h.2 f hf).cg (fun c a b => e c (by omega) b)⟩
theorem SpM.cg (h : SpM F N) (h1 : G 201 6 = F 201 6) (h2 : G 206 = F 206) : SpM G N := by
  unfold SpM at *
  rw [h1, h2]
  exact h
theorem FPr.tl (h : FPr F G) (k : TL F X) : TL G X := k.cg (fun c a b => h.1 c (by omega) (by omega))
theorem FPr.sp (h : FPr F G) (k : SpM F N) : SpM G N := k.cg (h.2 6 (by decide)) (h.1 206 (by decide) (by decide))
/-- a name that begins with the letters -/
theorem s_300 (hS : St F) (hX : ∀ r, r < 24 → Rok (X r)) (hT : TL F X) (hN : SpM F N) (hg : g < 3) (hk : k < (toks X g).length) : C_300 ((200 * g + k : Nat) : Int) F (fun r F' => r = bi (beg X N (200 * g + k)) ∧ F' = F) m_no := by
  have lk := toks_len hX hg
  have tg := lexm_tok (hT.2 g hg) hk
  have o2 := toks_ok hk
  have w1 := (hX (8 * g + tl X g k) (by omega)).1
  obtain ⟨n1, n2, n3⟩ := hN
  have eb : beg X N (200 * g + k) = decide (N.length ≤ ts X g k ∧ (tx X g k).take N.length = N) := by
    unfold beg
    rw [VI.at hX hg hk, tx_len]
  have stop : ∀ i : Int, 0 ≤ i → i < 10 → beg X N (200 * g + k) = false → L_300_21 ((200 * g + k : Nat) : Int) 0 i F (fun r F' => r = bi (beg X N (200 * g + k)) ∧ F' = F) m_no := by
    intro i hi hi2 hb
    refine b_300_21 hS ⟨fun _ => ⟨fun _ => ⟨Or.inl rfl, by rw [hb]; rfl, rfl⟩, fun h => absurd rfl h⟩, fun _ => ⟨Or.inl rfl, by rw [hb]; rfl, rfl⟩⟩
  refine c_300 hS ?_
  rw [Int.toNat_natCast, tg.2.2.2, n1]
  refine ⟨by omega, fun h => stop 0 (by decide) (by decide) (by rw [eb, decide_eq_false (fun e => by omega)]), fun h => ?_⟩
  have key : ∀ (d i : Nat), i + d = N.length → (∀ j, j < i → chr X g k j = gx N j) → L_300_21 ((200 * g + k : Nat) : Int) 1 (i : Int) F (fun r F' => r = bi (beg X N (200 * g + k)) ∧ F' = F) m_no := by
    intro d
    induction d with
    | zero =>
      intro i hi hj
      refine b_300_21 hS ?_
      rw [n1]
      refine ⟨fun h => by omega, fun _ => ⟨Or.inr rfl, ?_, rfl⟩⟩
      rw [eb, decide_eq_true]
      · rfl
      · refine ⟨by omega, gx_ext ?_ (fun j hj2 => ?_)⟩
        · rw [List.length_take, tx_len]; omega
        · rw [List.length_take, tx_len] at hj2
          rw [gx_take _ _ _ (by omega), tx_gx (by omega), hj j (by omega)]
    | succ d ih =>
      intro i hi hj
      have q2 := q_219 hT.1 hX (hT.2 g hg) hg hk (i := i) (by omega)
      refine b_300_21 hS ?_
      rw [n1, q2.1, Int.toNat_natCast, n2 i (by omega), show (i : Int) + 1 = ((i + 1 : Nat) : Int) by omega]
      refine ⟨fun _ => ⟨fun h => absurd h (by decide), fun _ => ⟨q2.2, by omega, fun e => ⟨by omega, ih (i + 1) (by omega) (fun j hj2 => ?_)⟩, fun e => ⟨by omega, stop _ (by omega) (by omega) ?_⟩⟩⟩, fun h => by omega⟩
      · by_cases e3 : j = i
        · rw [e3]; exact e
        · exact hj j (by omega)
      · rw [eb, decide_eq_false]
        rintro ⟨h3, h4⟩
        have h5 : gx ((tx X g k).take N.length) i = gx N i := by rw [h4]
        rw [gx_take _ _ _ (by omega), tx_gx (by omega)] at h5
        exact e h5
  exact key N.length 0 (by omega) (fun j hj => absurd hj (Nat.not_lt_zero j))
/-- a declaration is laid -/
theorem s_301 (hS : St F) (hX : ∀ r, r < 24 → Rok (X r)) (hT : TL F X) (hN : SpM F N) (hA : ∀ y ∈ L, VI X y) (hF : FDr F (A ++ L)) (hb : (A ++ L).length < 800) (hg : g < 3) (hk : k < (toks X g).length) :
    C_301 ((200 * g + k : Nat) : Int) (A.length : Int) F (fun F' => FDr F' (A ++ addF X N L (200 * g + k)) ∧ FPr F F') m_no := by
  have hk2 := toks_len hX hg
  have hbl := hb
  rw [List.length_append] at hbl
  have put : addF X N L (200 * g + k) = L ++ [200 * g + k] → FDr (m_up (m_up F 264 (A ++ L).length ((200 * g + k : Nat) : Int)) 201 94 (((A ++ L).length : Int) + 1)) (A ++ addF X N L (200 * g + k)) ∧ FPr F (m_up (m_up F 264 (A ++ L).length ((200 * g + k : Nat) : Int)) 201 94 (((A ++ L).length : Int) + 1)) := by
    intro e
    rw [e]
    refine ⟨⟨?_, ?_⟩, fun c h1 h2 => by rw [up_row h1, up_row h2], fun j hj => by rw [u_ne (Or.inr hj), up_row (by decide)]⟩
    · rw [u_eq, List.length_append, List.length_append, List.length_append, List.length_singleton]
      omega
    · rw [up_row (by decide), ← List.append_assoc, ndc_app, ← ndc_len (L1 := A ++ L)]
      exact hF.2.up1
  have no : ∀ (d i : Nat), i + d = L.length → addF X N L (200 * g + k) = L → L_301_9 ((200 * g + k : Nat) : Int) 0 ((A.length + i : Nat) : Int) F (fun F' => FDr F' (A ++ addF X N L (200 * g + k)) ∧ FPr F F') m_no := by
    intro d
    induction d with
    | zero =>
      intro i hi he
      refine b_301_9 hS ?_
      rw [hF.1, List.length_append]
      refine ⟨fun h => by omega, fun _ => ⟨fun _ => ?_, fun h => absurd rfl h⟩⟩
      rw [he]
      exact ⟨hF, FPr.rf⟩
    | succ d ih =>
      intro i hi he
      refine b_301_9 hS ?_
      rw [hF.1, List.length_append]
      refine ⟨fun _ => ⟨fun _ => ⟨by omega, ?_⟩, fun h => absurd rfl h⟩, fun h => by omega⟩
      have := ih (i + 1) (by omega) he
      rw [show ((A.length + (i + 1) : Nat) : Int) = ((A.length + i : Nat) : Int) + 1 by omega] at this
      exact this
  refine c_301 hS ?_
  refine CaI.on (s_300 hS hX hT hN hg hk) ?_
  rintro r F1 hS1 ⟨rfl, rfl⟩
  cases hbg : beg X N (200 * g + k) with
  | false =>
    have e : addF X N L (200 * g + k) = L := by unfold addF; rw [hbg, if_neg (by decide)]
    have := no L.length 0 (by omega) e
    rw [Nat.add_zero] at this
    exact this
  | true =>
    have e0 : addF X N L (200 * g + k) = addT X L (200 * g + k) := by unfold addF; rw [hbg, if_pos rfl]
    have key : ∀ (d i : Nat), i + d = L.length → (∀ z ∈ L.take i, ¬ TXi X z = TXi X (200 * g + k)) → L_301_9 ((200 * g + k : Nat) : Int) 1 ((A.length + i : Nat) : Int) F1 (fun F' => FDr F' (A ++ addF X N L (200 * g + k)) ∧ FPr F1 F') m_no := by
      intro d
      induction d with
      | zero =>
        intro i hi hz
        obtain rfl : i = L.length := by omega
        rw [List.take_length] at hz
        have e : addF X N L (200 * g + k) = L ++ [200 * g + k] := by
          rw [e0]
          unfold addT
          rw [if_neg]
          intro h
          obtain ⟨z, h1, h2⟩ := List.any_eq_true.mp h
          exact hz z h1 (of_decide_eq_true h2)
        refine b_301_9 hS1 ?_
        rw [hF.1, ← List.length_append, Int.toNat_natCast]
        exact ⟨fun h => by omega, fun _ => ⟨fun h => absurd h (by decide), fun _ => ⟨by omega, by omega, put e⟩⟩⟩
      | succ d ih =>
        intro i hi hz
        have hi2 : i < L.length := by omega
        obtain ⟨g2, h2, v1, v2, v3⟩ := hA _ (List.getElem_mem hi2)
        have hz2 : F1 264 (A.length + i) = ((200 * g2 + h2 : Nat) : Int) := by
          have := hF.2 (A.length + i) (by rw [ndc_len, List.length_append]; omega)
          rw [this, gx_ndc (by rw [List.length_append]; omega), List.getElem_append_right (by omega)]
          congr 1
          rw [← v3]
          congr 1
          omega
        refine b_301_9 hS1 ?_
        rw [hF.1, List.length_append]
        refine ⟨fun _ => ⟨fun h => absurd h (by decide), fun _ => ⟨by omega, ?_⟩⟩, fun h => by omega⟩
        rw [Int.toNat_natCast, hz2]
        refine CaI.on (s_220 hS1 hT.1 hX hT.2 v1 hg v2 hk) ?_
        rintro r G hSG ⟨rfl, rfl⟩
        refine ⟨fun h0 => ⟨by omega, ?_⟩, fun h0 => ⟨by omega, ?_⟩⟩
        · have := ih (i + 1) (by omega) (fun z hz3 => by
            rw [List.take_succ_eq_append_getElem hi2] at hz3
            rcases List.mem_append.mp hz3 with h | h
            · exact hz z h
            · rw [List.mem_singleton.mp h, v3, VI.at hX v1 v2, VI.at hX hg hk]
              intro e
              rw [decide_eq_true e] at h0
              exact absurd h0 (by decide))
          rw [show ((A.length + (i + 1) : Nat) : Int) = ((A.length + i : Nat) : Int) + 1 by omega] at this
          exact this
        · have e : addF X N L (200 * g + k) = L := by
            rw [e0]
            unfold addT
            rw [if_pos]
            refine List.any_eq_true.mpr ⟨_, List.getElem_mem hi2, ?_⟩
            rw [v3, VI.at hX v1 v2, VI.at hX hg hk]
            refine decide_eq_true ?_
            by_cases e : tx X g2 h2 = tx X g k
            · exact e
            · rw [decide_eq_false e] at h0
              exact absurd rfl h0
          have := no d (i + 1) (by omega) e
          rw [show ((A.length + (i + 1) : Nat) : Int) = ((A.length + i : Nat) : Int) + 1 by omega] at this
          exact this
    have := key L.length 0 (by omega) (fun z hz => by rw [List.take_zero] at hz; exact absurd hz (List.not_mem_nil))
    rw [Nat.add_zero] at this
    exact this
/-- many of them -/
def ddF (X : Nat → List Int) (N : List Int) : List Nat → List Nat → List Nat
  | A, [] => A
  | A, y :: L => ddF X N (addF X N A y) L
theorem addF_len : L.length ≤ (addF X N L k).length ∧ (addF X N L k).length ≤ L.length + 1 := by
  unfold addF
  split
  · exact addT_len
  · omega
theorem ddF_app : ∀ (M A B : List Nat), ddF X N A (M ++ B) = ddF X N (ddF X N A M) B
  | [], A, B => rfl
  | y :: M, A, B => ddF_app M (addF X N A y) B
theorem ddF_len : ∀ (M A : List Nat), A.length ≤ (ddF X N A M).length ∧ (ddF X N A M).length ≤ A.length + M.length
  | [], A => ⟨Nat.le_refl _, Nat.le_refl _⟩
  | y :: M, A => by
    have h1 := addF_len (X := X) (N := N) (L := A) (k := y)
    have h2 := ddF_len M (addF X N A y)
    show A.length ≤ (ddF X N (addF X N A y) M).length ∧ (ddF X N (addF X N A y) M).length ≤ A.length + (y :: M).length
    rw [List.length_cons]
    omega
theorem VI.adf {y : Nat} (hA : ∀ y ∈ L, VI X y) (h : VI X y) : ∀ z ∈ addF X N L y, VI X z := fun z hz => by
  unfold addF at hz
  split at hz
  · exact VI.add hA h z hz
  · exact hA z hz
theorem VI.ddf : ∀ (M L : List Nat), (∀ y ∈ L, VI X y) → (∀ y ∈ M, VI X y) → ∀ z ∈ ddF X N L M, VI X z
  | [], L, h, _ => h
  | y :: M, L, h, k => VI.ddf M (addF X N L y) (VI.adf h (k y List.mem_cons_self)) (fun z hz => k z (List.mem_cons_of_mem _ hz))
/-- what begins with the letters depends on the text alone -/
theorem beg_tx {y z : Nat} (h : TXi X y = TXi X z) : beg X N y = beg X N z := by unfold beg; rw [h]
theorem has_flt {y : Nat} (hy : beg X N y = true) : hasT X (A.filter (beg X N)) y = hasT X A y := by
  induction A with
  | nil => rfl
  | cons z A ih =>
    rw [List.filter_cons]
    by_cases c : beg X N z = true
    · rw [if_pos c]
      show (decide _ || hasT X (A.filter (beg X N)) y) = (decide _ || hasT X A y)
      rw [ih]
    · rw [if_neg c, ih]
      show _ = (decide (TXi X z = TXi X y) || hasT X A y)
      rw [decide_eq_false (fun e => c (by rw [beg_tx e]; exact hy)), Bool.false_or]
theorem dd_flt : ∀ (M A : List Nat), (dd X A M).filter (beg X N) = ddF X N (A.filter (beg X N)) M
  | [], A => rfl
  | y :: M, A => by
    show (dd X (addT X A y) M).filter (beg X N) = ddF X N (addF X N (A.filter (beg X N)) y) M
    rw [dd_flt M]
    congr 1
    unfold addF
    by_cases c : beg X N y = true
    · rw [if_pos c]
      unfold addT
      rw [has_flt c]
      split
      · rfl
      · rw [List.filter_append, List.filter_cons, if_pos c]; rfl
    · rw [if_neg c]
      unfold addT
      split
      · rfl
      · rw [List.filter_append, List.filter_cons, if_neg c, List.filter_nil, List.append_nil]
end Mi6
