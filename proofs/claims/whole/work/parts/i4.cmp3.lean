/-! COMPLETIONS, OF THE CLASS: all -/
def allf (X : Nat → List Int) : List Nat := fns X 0 ++ (fns X 1 ++ fns X 2)
/-- cells that completions change -/
def CP (n : Nat) (F F' : MF) : Prop := (∀ c, c ≠ 96 → c ≠ 97 → c ≠ 108 → ¬ RP (n + 68) 98 c → ¬ (n + 8 ≤ c ∧ c ≤ n + 10) → F' c = F c) ∧ ∀ j, j ≠ 3 → F' 96 j = F 96 j
section Mi4
variable {F G : MF} {X : Nat → List Int} {K C C' : List Int} {f g k m n : Nat} {A L M : List Nat} {N : List Int}
theorem fr3_cg (hn2 : n = 1 ∨ n = 110) (h : fr (fun c => c = n + 8 ∨ c = n + 8 + 1 ∨ c = n + 8 + 2) F G) : CgP n F G ∧ G 96 = F 96 ∧ G 99 = F 99 ∧ G 108 = F 108 :=
  ⟨⟨fun c _ _ d => h c (by omega), fun j _ => by rw [h 96 (by omega)]⟩, h 96 (by omega), h 99 (by omega), h 108 (by omega)⟩
theorem fr1_cg (hn2 : n = 1 ∨ n = 110) (h : fr (fun c => c = n + 8) F G) : CgP n F G ∧ G 96 = F 96 ∧ G 99 = F 99 ∧ G 108 = F 108 := fr3_cg hn2 (h.mo (fun c e => Or.inl e))
theorem s_4 (hn : n ∈ m_I1) (hX : ∀ r, r < 24 → Rok (X r)) (hS : St F) (hD : DTT F n X) (hf : f < 3) (hm : m ≤ (ks X f).length) (hC : F 98 1 = ((prs (mK (ks X f) m 24)).2.2.1.length : Int) ∧ AL (F 99) (prs (mK (ks X f) m 24)).2.2.1) (hF : FD F []) :
    C_4 n (f : Int) (m : Int) F (fun F' => FD F' (dd X [] (lcs X f m)) ∧ CgP n F F') m_no := by
  have hkl := ks_len hX hf
  have i7 := io_1_5 hn
  have hn2 := I1n hn
  have hKl : (mK (ks X f) m 24).length = m := by rw [mK_len hm, if_pos rfl, Nat.add_zero]
  have hKN : ∀ i, i < (mK (ks X f) m 24).length → kn (mK (ks X f) m 24) i ≠ 24 := fun i hi => mK_no hm (fun i hi => ks_no hX hf hi) hi
  have pI := PI_prun (K := mK (ks X f) m 24) (by omega) hKN 600 _ PI_0
  have pV := PV_prun (K := mK (ks X f) m 24) (by omega) hKN 600 _ PI_0 PV_0
  change PI _ (prs (mK (ks X f) m 24)) at pI
  change PV _ (prs (mK (ks X f) m 24)) at pV
  obtain ⟨⟨⟨-, yV, -, yG, y4⟩, y1⟩, y0, yk⟩ := yst_ok hX hf hm
  have hlc : lcs X f m = if (yst X f m).2.1 = [] then [] else (cand (sat (yst X f m).2.2.1 (yst X f m).2.2.1.length)).map (lid f) := rfl
  generalize (prs (mK (ks X f) m 24)) = z at hC pI pV y0 yk
  obtain ⟨za, zS, Cf, zE, zF, zU⟩ := z
  generalize yst X f m = y at *
  obtain ⟨ya, S, C, E, Fn, U⟩ := y
  change F 98 1 = (Cf.length : Int) ∧ AL (F 99) Cf at hC
  have hCl : Cf.length ≤ 640 := by
    have a := pI.2.1
    have b := pI.1
    change Cf.length + _ ≤ 3 * za at a
    change za ≤ _ at b
    omega
  have hW : W32 Cf := pI.2.2.2.2.2
  have hWC : ∀ i, i < Cf.length → WC (ks X f) (gx Cf i) := fun i hi => WC.tk hm (pV.1.1 _ (gx_mem hi))
  have sms : sm b7 Cf ≤ 195 ∧ sm b3 Cf ≤ 195 := by
    have a := pV.1.2.2.1
    have b := pV.1.2.2.2
    have c := pI.1
    change sm b3 Cf ≤ za at a
    change sm b7 Cf ≤ za at b
    change za ≤ _ at c
    omega
  refine c_4 hn hS ?_
  refine CaI.on (s_5 (m := m) hS hC hCl hW) ?_
  rintro r F1 hS1 ⟨rfl, hr⟩
  change S = [] → Cf = C at y0
  change S ≠ [] → kpw (C ++ [mk 4 m 0]) Cf at yk
  change lcs X f m = if S = [] then [] else (cand (sat C C.length)).map (lid f) at hlc
  have y4' : ∀ w ∈ C, p4 m w := y4
  have hm2 : m < 256 := by omega
  by_cases hs : S = []
  · rw [if_pos hs] at hlc
    rw [hlc]
    rcases hr with ⟨h1, -⟩ | ⟨e, -, h2, h3, -⟩
    · rw [h1]
      exact ⟨fun _ => ⟨hF, CgP.rf⟩, fun h => absurd rfl h⟩
    · exfalso
      rw [y0 hs] at h2 h3
      have := y4' _ (gx_mem h2) h3.1 h3.2.1
      rw [h3.2.2] at this
      omega
  · rw [if_neg hs] at hlc
    have hk := yk hs
    have hCl2 : C.length < Cf.length := by have := hk.1; rw [List.length_append, List.length_singleton] at this; omega
    have ec : gx (C ++ [mk 4 m 0]) C.length = mk 4 m 0 := by rw [gx_app, if_neg (by omega), Nat.sub_self]; rfl
    have e4 : gx Cf C.length = mk 4 m 0 := by
      have := (hk.2 C.length (by rw [List.length_append, List.length_singleton]; omega)).2
      rw [ec, wo_mk (by decide)] at this
      exact this (by decide) (by decide)
    have o4 : oe m (gx Cf C.length) := by
      rw [e4]
      exact ⟨wo_mk (by decide), we_mk (by decide) hm2, wt_mk (by decide) hm2⟩
    obtain ⟨rfl⟩ : r = ((C.length : Nat) : Int) := by
      rcases hr with ⟨-, h1⟩ | ⟨e, rfl, h2, h3, h4⟩
      · exact absurd o4 (h1 _ hCl2)
      · congr 1
        by_cases c1 : e < C.length
        · exfalso
          have h5 := hk.2 e (by rw [List.length_append]; omega)
          rw [gx_app, if_pos c1] at h5
          have h6 : wo (gx C e) = 4 := by rw [← h5.1]; exact h3.1
          have h7 := h5.2 (by omega) (by omega)
          rw [h7] at h3
          have := y4' _ (gx_mem c1) h3.1 h3.2.1
          rw [h3.2.2] at this
          omega
        · by_cases c2 : C.length < e
          · exact absurd o4 (h4 _ c2)
          · omega
    refine ⟨fun h => by omega, fun _ => ?_⟩
    refine c_100 i7 hS1 ?_
    obtain ⟨G, hG⟩ : ∃ G, G = m_up (m_up (m_up (m_up F1 (n + 8) 2 0) (n + 8) 3 0) (n + 8) 4 (-1)) (n + 8) 5 0 := ⟨_, rfl⟩
    have hSG : St G := by rw [hG]; exact (((hS1.fld (ok_7 i7) rk_7_2).fld (ok_7 i7) rk_7_3).fld (ok_7 i7) rk_7_4).fld (ok_7 i7) rk_7_5
    have hfG : fr (fun c => c = n + 8) F1 G := by rw [hG]; exact (((fr.rf.up (by rfl)).up (by rfl)).up (by rfl)).up (by rfl)
    obtain ⟨gcg, g96, g99, g108⟩ := fr1_cg hn2 hfG
    have w2 : G (n + 8) 2 = 0 := by rw [hG, u_ne (Or.inr (by decide)), u_ne (Or.inr (by decide)), u_ne (Or.inr (by decide)), u_eq]
    have w3 : G (n + 8) 3 = 0 := by rw [hG, u_ne (Or.inr (by decide)), u_ne (Or.inr (by decide)), u_eq]
    have w4 : G (n + 8) 4 = -1 := by rw [hG, u_ne (Or.inr (by decide)), u_eq]
    have w5 : G (n + 8) 5 = 0 := by rw [hG, u_eq]
    rw [← hG]
    have esat : sat Cf C.length = sat C C.length := by
      rw [sat_kpw hk C.length (by rw [List.length_append]; omega), sat_app C.length (Nat.le_refl _)]
    have so := sat_ok (C := C) (fun i hi => WC.tk hm (yV.1.1 _ (gx_mem hi))) hX hf C.length (Nat.le_refl _)
    have gc := gy_cand (C := C) C.length (Nat.le_refl _)
    rw [List.take_length] at gc
    have yG' : sm gy C ≤ ya := yG
    have y1' : ya = m := y1
    have cl : (cand (sat C C.length)).length ≤ 100 := by
      unfold cand pars
      rw [List.length_append, List.length_map, List.length_range]
      omega
    rw [hlc]
    have key : ∀ (d i : Nat) (H : MF), i + d = C.length → St H → DTT H n X → SCc H (n + 8) (sat Cf i) → CgP n F1 H → H 99 = F1 99 → FD H [] → L_4_28 n (f : Int) (n + 8) (C.length : Int) (i : Int) H (fun F' => FD F' (dd X [] ((cand (sat C C.length)).map (lid f))) ∧ CgP n F1 F') m_no := by
      intro d
      induction d with
      | zero =>
        intro i H hi hSH hDH sc hP h99 hFH
        obtain rfl : i = C.length := by omega
        rw [esat] at sc
        have h2 : H (n + 8) 2 = ((nms (sat C C.length)).length : Int) := sc.1.1
        refine b_4_28 hn i7 hSH ⟨fun h => by omega, fun _ => ?_⟩
        rw [h2]
        refine ⟨by omega, ?_⟩
        refine EvV.mono (l_4 (s := sat C C.length) hn hX hf so.2.2.1 cl (by omega) so.2.2.2 [] (nms (sat C C.length)) H [] rfl hSH hDH sc (fun y hy => absurd hy (List.not_mem_nil)) hFH FP.rf ?_) ?_ (fun _ _ _ h => h)
        · rw [← List.map_append]; rfl
        · rintro F' _ ⟨k1, k2⟩
          exact ⟨k1, hP.tr k2.gp⟩
      | succ d ih =>
        intro i H hi hSH hDH sc hP h99 hFH
        have hi2 : i < Cf.length := by omega
        have so2 := sat_ok hWC hX hf i (by omega)
        have q1 := sm_take (g := b7) Cf i
        have q2 := sm_take (g := b3) Cf i
        refine b_4_28 hn i7 hSH ⟨fun _ => ⟨by omega, ?_⟩, fun h => by omega⟩
        rw [Int.toNat_natCast, h99, hC.2 i hi2]
        refine CaV.on (s_101 i7 hSH (hW i hi2) sc (by omega) (by omega)) ?_
        rintro H3 hS3 ⟨sc3, fr3⟩
        refine ⟨by omega, ?_⟩
        obtain ⟨fp, f96, f99, f108⟩ := fr3_cg hn2 fr3
        have := ih (i + 1) H3 (by omega) hS3 (fp.dtt hn hDH) sc3 (hP.tr fp) (by rw [f99]; exact h99) (by unfold FD at hFH ⊢; rw [f96, f108]; exact hFH)
        rw [show ((i + 1 : Nat) : Int) = (i : Int) + 1 by omega] at this
        exact this
    refine key C.length 0 G (by omega) hSG (hD.fr hfG (fun c h => by omega)) ⟨⟨w2, fun i hi => absurd hi (Nat.not_lt_zero i)⟩, ⟨w3, fun i hi => absurd hi (Nat.not_lt_zero i)⟩, w4, w5⟩ gcg g99 ?_
    unfold FD at hF ⊢
    rw [g96, g108]
    exact hF
/-- how many functions there can be -/
theorem fns_len (hX : ∀ r, r < 24 → Rok (X r)) (hg : g < 3) : (fns X g).length ≤ 40 := by
  unfold fns
  rw [List.length_map]
  exact (Fw_len hX hg).1
theorem fnsI_all {x : Int} : ∀ y ∈ fnsI X x, y ∈ allf X := by
  intro y hy
  unfold fnsI at hy
  split at hy
  · next h =>
    have : x.toNat = 0 ∨ x.toNat = 1 ∨ x.toNat = 2 := by omega
    unfold allf
    rcases this with e | e | e
    · rw [e] at hy; exact List.mem_append_left _ hy
    · rw [e] at hy; exact List.mem_append_right _ (List.mem_append_left _ hy)
    · rw [e] at hy; exact List.mem_append_right _ (List.mem_append_right _ hy)
  · exact absurd hy (List.not_mem_nil)
theorem fnsU_all : ∀ (U : List Int), ∀ y ∈ fnsU X f U, y ∈ allf X
  | [], y, hy => absurd hy (List.not_mem_nil)
  | u :: U, y, hy => (List.mem_append.mp hy).elim (fnsI_all y) (fnsU_all U y)
theorem fns_all (hf : f < 3) : ∀ y ∈ fns X f, y ∈ allf X := fun y hy => fnsI_all (x := (f : Int)) y (by unfold fnsI; rw [if_pos (by omega), Int.toNat_natCast]; exact hy)
theorem dd_nd : ∀ (M A : List Nat), A.Nodup → (dd X A M).Nodup
  | [], A, h => h
  | y :: M, A, h => by
    refine dd_nd M (addT X A y) ?_
    unfold addT
    split
    · exact h
    · next h2 =>
      refine nodup_app h (nd1 y) (fun a ha b hb e => h2 ?_)
      rw [List.mem_singleton.mp hb] at e
      exact List.any_eq_true.mpr ⟨a, ha, decide_eq_true (by rw [e])⟩
theorem fn_len (hX : ∀ r, r < 24 → Rok (X r)) (hM : ∀ y ∈ M, y ∈ allf X) : (dd X [] M).length ≤ 120 := by
  have h1 := List.Nodup.length_le_of_subset (dd_nd (X := X) M [] List.nodup_nil) (l₂ := allf X) (fun y hy => by
    rcases dd_mem M [] y hy with h | h
    · exact absurd h (List.not_mem_nil)
    · exact hM y h)
  unfold allf at h1
  rw [List.length_append, List.length_append] at h1
  have a := fns_len hX (g := 0) (by decide)
  have b := fns_len hX (g := 1) (by decide)
  have c := fns_len hX (g := 2) (by decide)
  omega
/-- whether a NAME may stand -/
theorem or_evp {p : Nat} (h2 : p % 2 = 0) (h3 : p ≤ 33554432) (y : Int) : m_or y (p : Int) % 2 = y % 2 := by
  unfold m_or w32
  have h4 : (((p : Nat) : Int) % 4294967296).toNat = p := by omega
  rw [h4]
  have h5 := Nat.or_mod_two_eq_one (a := (y % 4294967296).toNat) (b := p)
  generalize (y % 4294967296).toNat ||| p = z at h5
  have h6 : z % 2 = (y % 4294967296).toNat % 2 := by
    by_cases c : (y % 4294967296).toNat % 2 = 1
    · have := h5.mpr (Or.inl c); omega
    · have : ¬ z % 2 = 1 := fun e => by rcases h5.mp e with h | h <;> omega
      omega
  clear h5 h4
  omega
theorem or_even {k : Nat} (hk : 1 ≤ k) (hk2 : k ≤ 25) (y : Int) : m_or y (m_shl 1 (k : Int)) % 2 = y % 2 := by
  have h3 : (2 : Nat) ^ k ≤ 33554432 := Nat.le_trans (Nat.pow_le_pow_right (by decide) hk2) (by decide)
  have h1 : m_shl 1 (k : Int) = ((1 * 2 ^ k : Nat) : Int) := m_shl_nat (t := 1) (s := k) (by rw [Nat.one_mul]; exact Nat.lt_of_le_of_lt h3 (by decide))
  have h2 : (2 : Nat) ^ k % 2 = 0 := by
    obtain ⟨j, rfl⟩ : ∃ j, k = j + 1 := ⟨k - 1, (Nat.sub_add_cancel hk).symm⟩
    rw [Nat.pow_succ, Nat.mul_mod_left]
  rw [h1, Nat.one_mul]
  exact or_evp h2 h3 y
theorem msk_0 : ∀ k, k ≤ 24 → msk X f m (k + 1) % 2 = if bad X f m 0 = true then 0 else 1
  | 0, _ => by
    show (if bad X f m ((0 : Nat) : Int) = true then (0 : Int) else m_or 0 (m_shl 1 ((0 : Nat) : Int))) % 2 = _
    rw [show ((0 : Nat) : Int) = 0 from rfl]
    split
    · rfl
    · decide
  | k + 1, h => by
    show (if bad X f m ((k + 1 : Nat) : Int) = true then msk X f m (k + 1) else m_or (msk X f m (k + 1)) (m_shl 1 ((k + 1 : Nat) : Int))) % 2 = _
    rw [← msk_0 k (by omega)]
    split
    · rfl
    · exact or_even (by omega) (by omega) _
theorem msk_and : (m_and (msk X f m 25) 1 = 0) ↔ bad X f m 0 = true := by
  have h1 := msk_0 (X := X) (f := f) (m := m) 24 (Nat.le_refl _)
  have h2 := msk_rng (X := X) (f := f) (m := m) 25
  change msk X f m 25 % 2 = _ at h1
  generalize msk X f m 25 = y at h1 h2
  have h3 : m_and y 1 = y % 2 := by
    unfold m_and
    rw [show ((1 : Int) % 4294967296).toNat = 1 from by decide, Nat.and_one_is_mod]
    unfold w32
    omega
  rw [h3, h1]
  by_cases c : bad X f m 0 = true
  · rw [if_pos c]
    exact ⟨fun _ => c, fun _ => rfl⟩
  · rw [if_neg c]
    exact ⟨fun h => absurd h (by decide), fun h => absurd h c⟩
theorem CP.rf : CP n F F := ⟨fun _ _ _ _ _ _ => rfl, fun _ _ => rfl⟩
theorem CP.tr {H : MF} (h : CP n F G) (k : CP n G H) : CP n F H := ⟨fun c a b d e f => (k.1 c a b d e f).trans (h.1 c a b d e f), fun j a => (k.2 j a).trans (h.2 j a)⟩
theorem CgP.cp (h : CgP n F G) : CP n F G := ⟨fun c a _ b _ d => h.1 c a b d, h.2⟩
theorem fr.cpp {P : Nat → Prop} (h : fr P F G) (hP : ∀ c, P c → c = 97 ∨ RP (n + 68) 98 c) (hn : n = 1 ∨ n = 110) : CP n F G := by
  have h96 : G 96 = F 96 := h 96 (fun e => by
    rcases hP 96 e with e | e
    · exact absurd e (by decide)
    · unfold RP at e; omega)
  exact ⟨fun c _ a _ b _ => h c (fun e => (hP c e).elim a b), fun j _ => by rw [h96]⟩
theorem CP.dtt (hn : n ∈ m_I1) (h : CP n F G) (hD : DTT F n X) : DTT G n X := by
  have hn2 := I1n hn
  refine DTT.fr (P := fun c => c = 96 ∨ c = 97 ∨ c = 108 ∨ RP (n + 68) 98 c ∨ (n + 8 ≤ c ∧ c ≤ n + 10)) hD (fun c hc => h.1 c (fun e => hc (Or.inl e)) (fun e => hc (Or.inr (Or.inl e))) (fun e => hc (Or.inr (Or.inr (Or.inl e)))) (fun e => hc (Or.inr (Or.inr (Or.inr (Or.inl e))))) (fun e => hc (Or.inr (Or.inr (Or.inr (Or.inr e)))))) (fun c hc => ?_)
  unfold RP at hc
  omega
end Mi4
