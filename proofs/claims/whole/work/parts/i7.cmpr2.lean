/-! COMPLETIONS, OF THE REFERENCE: variables of a block, functions -/
def FPw (F F' : MF) : Prop := (∀ c, c ≠ 201 → c ≠ 264 → c ≠ 265 → F' c = F c) ∧ ∀ j, j ≠ 94 → F' 201 j = F 201 j
section Mi7
variable {F G : MF} {X : Nat → List Int} {K : List Int} {f g k m n : Nat} {A L M P : List Nat} {N : List Int}
theorem FPw.rf : FPw F F := ⟨fun _ _ _ _ => rfl, fun _ _ => rfl⟩
theorem FPw.tr {H : MF} (h : FPw F G) (k : FPw G H) : FPw F H := ⟨fun c a b d => (k.1 c a b d).trans (h.1 c a b d), fun j a => (k.2 j a).trans (h.2 j a)⟩
theorem FPr.w (h : FPr F G) : FPw F G := ⟨fun c a b _ => h.1 c a b, h.2⟩
theorem FPw.tl (h : FPw F G) (k : TL F X) : TL G X := k.cg (fun c a b => h.1 c (by omega) (by omega) (by omega))
theorem FPw.sp (h : FPw F G) (k : SpM F N) : SpM G N := k.cg (h.2 6 (by decide)) (h.1 206 (by decide) (by decide) (by decide))
theorem ddF_vi (hA : ∀ y ∈ A, VI X y) (hM : ∀ y ∈ M, VI X y) : ∀ y ∈ ddF X N A M, VI X y := VI.ddf M A hA hM
/-- the variables of a block, laid the other way round -/
theorem l_302b (hX : ∀ r, r < 24 → Rok (X r)) (hf : f < 3) : ∀ (U : List Int) (G : MF) (L : List Nat), St G → TL G X → SpM G N → TVs X f U → (∀ y ∈ L, VI X y) → FDr G L → L.length + U.length < 800 → U.length ≤ 210 → AL (G 265) (ndc (U.reverse.map (lid f))) →
    L_302_66 ((U.length : Int) - 1) G (fun F' => FDr F' (ddF X N L (U.map (lid f))) ∧ FPw G F') m_no := by
  intro U
  induction U with
  | nil =>
    intro G L hS hT hN hU hL hF hb hl hA
    exact b_302_66 hS ⟨fun _ => ⟨hF, FPw.rf⟩, fun h => by rw [List.length_nil] at h; omega⟩
  | cons u U ih =>
    intro G L hS hT hN hU hL hF hb hl hA
    obtain ⟨k, t1, t2⟩ := hU u List.mem_cons_self
    rw [List.length_cons] at hb hl
    have hv : G 265 U.length = ((200 * f + k : Nat) : Int) := by
      rw [hA U.length (by rw [ndc_len, List.length_map, List.length_reverse, List.length_cons]; omega), List.reverse_cons, List.map_append, ndc_app, gx_app, if_neg (by rw [ndc_len, List.length_map, List.length_reverse]; omega), ndc_len, List.length_map, List.length_reverse, Nat.sub_self, t1]
      rfl
    have hv2 : AL (G 265) (ndc (U.reverse.map (lid f))) := by
      rw [List.reverse_cons, List.map_append, ndc_app] at hA
      exact hA.pre
    rw [show ((u :: U).length : Int) - 1 = (U.length : Int) by rw [List.length_cons]; omega]
    refine b_302_66 hS ⟨fun h => by omega, fun _ => ⟨by omega, ?_⟩⟩
    rw [Int.toNat_natCast, hv]
    have s3 := s_301 (A := []) hS hX hT hN hL hF (by rw [List.nil_append]; omega) hf t2
    refine CaV.on s3 ?_
    rintro G2 hS2 ⟨k1, k2⟩
    refine ⟨by omega, ?_⟩
    have al := addF_len (X := X) (N := N) (L := L) (k := 200 * f + k)
    have := ih G2 (addF X N L (200 * f + k)) hS2 (k2.tl hT) (k2.sp hN) (fun t ht => hU t (List.mem_cons_of_mem _ ht)) (VI.adf hL ⟨f, k, hf, t2, rfl⟩) k1 (by omega) (by omega) (by rw [k2.1 265 (by decide) (by decide)]; exact hv2)
    rw [show (U.length : Int) + -1 = (U.length : Int) - 1 by omega]
    refine EvV.mono this ?_ (fun _ _ _ h => h)
    rintro F' _ ⟨h1, h2⟩
    refine ⟨?_, k2.w.tr h2⟩
    rw [List.map_cons, t1]
    show FDr F' (ddF X N (addF X N L (200 * f + (k : Int).toNat)) (U.map (lid f)))
    rw [Int.toNat_natCast]
    exact h1
theorem l_302a {R : MF → Prop} (hf : f < 3) : ∀ (k : Nat) (x : Int) (T V : List Int) (G : MF), LtZ F k x (-1) T → St G → (∀ c, c ≠ 265 → G c = F c) → TVs X f (V ++ T) → (toks X f).length ≤ 192 → (V ++ T).length ≤ 200 → AL (G 265) (ndc (V.map (lid f))) →
    (∀ G', St G' → (∀ c, c ≠ 265 → G' c = F c) → AL (G' 265) (ndc ((V ++ T).map (lid f))) → L_302_66 (((V ++ T).length : Int) - 1) G' R m_no) → L_302_10 (f : Int) (V.length : Int) x G R m_no := by
  intro k
  induction k with
  | zero =>
    rintro x T V G ⟨h1, h2⟩ hS hz hT htl hl hA hR
    subst h2
    rw [List.append_nil] at hR hl
    exact b_302_10 hS ⟨fun _ => ⟨by omega, hR G hS hz hA⟩, fun h => absurd h1 h⟩
  | succ k ih =>
    rintro x T V G ⟨u, L', h1, h2, h3, h4⟩ hS hz hT htl hl hA hR
    subst h1
    refine b_302_10 hS ⟨fun h => by omega, fun _ => ⟨by omega, ?_⟩⟩
    rw [Int.toNat_natCast, hz 221 (by decide), hz 222 (by decide), hz 227 (by decide)]
    by_cases e : F 221 u = 5
    · rw [if_pos e] at h3
      change T = F 222 u :: L' at h3
      obtain ⟨p, p1, p2⟩ := hT (F 222 u) (List.mem_append_right _ (by rw [h3]; exact List.mem_cons_self))
      have hvl : V.length + 1 ≤ 200 := by rw [h3, List.length_append, List.length_cons] at hl; omega
      refine ⟨fun _ => ⟨by omega, by omega, by omega, by omega, by omega, by omega, ?_⟩, fun h => absurd e h⟩
      rw [p1, Int.toNat_natCast, show 200 * (f : Int) + (p : Int) = ((200 * f + p : Nat) : Int) by omega]
      have := ih (F 227 u) L' (V ++ [F 222 u]) (m_up G 265 V.length ((200 * f + p : Nat) : Int)) h4 (hS.arr kd_265 (by decide)) (fun c hc => by rw [up_row hc, hz c hc])
        (by rw [List.append_assoc, List.singleton_append, ← h3]; exact hT) htl (by rw [List.append_assoc, List.singleton_append, ← h3]; exact hl) ?_ (by rw [List.append_assoc, List.singleton_append, ← h3]; exact hR)
      · rw [List.length_append, List.length_singleton, show ((V.length + 1 : Nat) : Int) = (V.length : Int) + 1 by omega] at this
        exact this
      · rw [List.map_append, ndc_app]
        have hl2 : (ndc (V.map (lid f))).length = V.length := by rw [ndc_len, List.length_map]
        rw [← hl2]
        have := hA.up1 (v := ((200 * f + p : Nat) : Int))
        rw [show ndc ([F 222 u].map (lid f)) = [((200 * f + p : Nat) : Int)] from by
          show [((200 * f + (F 222 u).toNat : Nat) : Int)] = _
          rw [p1, Int.toNat_natCast]]
        exact this
    · rw [if_neg e] at h3
      change T = L' at h3
      subst h3
      exact ⟨fun h => absurd h e, fun _ => ⟨by omega, ih (F 227 u) T V G h4 hS hz hT htl hl hA hR⟩⟩
/-- the variables of a block -/
theorem s_302 {b : Nat} {T : List Int} (hS : St F) (hX : ∀ r, r < 24 → Rok (X r)) (hT : TL F X) (hN : SpM F N) (hf : f < 3) (hb : b < 1600) (hk : LtZ F k (F 224 b) (-1) T) (hV : TVs X f T) (hL : ∀ y ∈ L, VI X y) (hF : FDr F L) (hTl : T.length ≤ 200) (hLl : L.length < 600) :
    C_302 (f : Int) (b : Int) F (fun F' => FDr F' (ddF X N L (T.reverse.map (lid f))) ∧ FPw F F') m_no := by
  refine c_302 hS ⟨by omega, ?_⟩
  rw [Int.toNat_natCast]
  refine l_302a (F := F) hf k (F 224 b) T [] F hk hS (fun _ _ => rfl) hV (toks_len hX hf) hTl (fun i hi => absurd hi (Nat.not_lt_zero i)) ?_
  intro G hSG hz hA
  change L_302_66 ((T.length : Int) - 1) G _ m_no
  change AL (G 265) (ndc (T.map (lid f))) at hA
  have hFG : FPw F G := ⟨fun c _ _ h => hz c h, fun j _ => by rw [hz 201 (by decide)]⟩
  have := l_302b (N := N) hX hf T.reverse G L hSG (hFG.tl hT) (hFG.sp hN) (fun t ht => hV t (List.mem_reverse.mp ht)) hL (by unfold FDr at hF ⊢; rw [hz 201 (by decide), hz 264 (by decide)]; exact hF) (by rw [List.length_reverse]; omega) (by rw [List.length_reverse]; omega) (by rw [List.reverse_reverse]; exact hA)
  rw [List.length_reverse] at this
  refine EvV.mono this ?_ (fun _ _ _ h => h)
  rintro F' _ ⟨h1, h2⟩
  exact ⟨h1, hFG.tr h2⟩
theorem ddF_all (hX : ∀ r, r < 24 → Rok (X r)) (hP : ∀ y ∈ P, y ∈ allf X) : (ddF X N [] P).length ≤ 120 := by
  have h := dd_flt (X := X) (N := N) P []
  rw [List.filter_nil] at h
  rw [← h]
  have h1 := List.length_filter_le (beg X N) (dd X [] P)
  have h2 := fn_len (X := X) (M := P) hX hP
  omega
theorem allf_vi (hX : ∀ r, r < 24 → Rok (X r)) : ∀ y ∈ allf X, VI X y := by
  intro y hy
  unfold allf at hy
  rcases List.mem_append.mp hy with h | h
  · exact fns_vi hX (by decide) y h
  · rcases List.mem_append.mp h with h | h
    · exact fns_vi hX (by decide) y h
    · exact fns_vi hX (by decide) y h
/-- the functions of a file -/
theorem s_303 {nn : Nat → Nat} (hS : St F) (hX : ∀ r, r < 24 → Rok (X r)) (hR : RA F X nn) (hN : SpM F N) (hg : g < 3) (hP : ∀ y ∈ P, y ∈ allf X) (hF : FDr F (A ++ ddF X N [] P)) (hA : A.length ≤ 200) :
    C_303 (g : Int) (A.length : Int) F (fun F' => FDr F' (A ++ ddF X N [] (P ++ fns X g)) ∧ FPr F F') m_no := by
  obtain ⟨I, i1, i2, i3, i4⟩ := hR.its hg
  have lg := toks_len hX hg
  have hT : TL F X := ⟨hR.1, hR.2.1⟩
  have key : ∀ (I : List IT) (c lo : Nat) (x : Int) (P : List Nat) (G : MF), ItC F (ks X g) (nn (g + 1)) x c lo I (-1) → (∀ e ∈ fnsO F c I, e ∈ Fw X g) → (∀ y ∈ P, y ∈ allf X) → St G → FPr F G → FDr G (A ++ ddF X N [] P) → L_303_7 (g : Int) (A.length : Int) x G (fun F' => FDr F' (A ++ ddF X N [] (P ++ (fnsO F c I).map (fun e => 200 * g + e.1.toNat))) ∧ FPr F F') m_no := by
    intro I
    induction I with
    | nil =>
      intro c lo x P G hx _ hP hSG hG hFG
      refine b_303_7 hSG ⟨fun _ => ⟨?_, hG⟩, fun h => absurd hx.1 h⟩
      show FDr G (A ++ ddF X N [] (P ++ []))
      rw [List.append_nil]
      exact hFG
    | cons it I ih =>
      rintro c lo x P G ⟨rfl, hi, ⟨h1, h2, -⟩, h3⟩ hm hP hSG hG hFG
      have hm2 : ∀ e ∈ fnsO F (c + it.2.2.2.2.2.length) I, e ∈ Fw X g := fun e he => hm e (List.mem_append_right _ he)
      have nx := ih _ _ _ (P := P) (G := G) h3 hm2
      refine b_303_7 hSG ⟨fun h => by omega, fun _ => ?_⟩
      rw [Int.toNat_natCast, hG.1 221 (by decide) (by decide), hG.1 222 (by decide) (by decide), hG.1 227 (by decide) (by decide)]
      refine ⟨by omega, fun e2 => ?_, fun e2 => ⟨by omega, ?_⟩⟩
      · have hk2 : it.2.1 = 2 := by
          rcases h2 with h2 | h2
          · rw [h2.2.1] at e2; exact absurd e2 (by decide)
          · exact h2.1
        have h22 : F 222 it.1 = (it.2.2.1 : Int) := by
          rcases h2 with h2 | h2
          · exact h2.2.2.1
          · exact h2.2.2.1
        have ht := it_fn (F := F) hX hg (it :: I) c hm it (List.mem_cons_self) hk2
        have hp : it.2.2.1 < (toks X g).length := kn_tok (by have := ht.2 0 (Nat.zero_le _); rw [show it.2.2.1 + 2 * 0 = it.2.2.1 by omega] at this; rw [this]; decide)
        have ef : fnsO F c (it :: I) = ((it.2.2.1 : Int), (it.2.2.2.1 : Int), (c : Int), F 228 it.2.2.2.2.1) :: fnsO F (c + it.2.2.2.2.2.length) I := by
          show (if it.2.1 = 2 then _ else _) ++ _ = _
          rw [if_pos hk2]
          rfl
        have hall : 200 * g + it.2.2.1 ∈ allf X := by
          refine fns_all hg _ (List.mem_map.mpr ⟨_, hm _ (by rw [ef]; exact List.mem_cons_self), ?_⟩)
          show 200 * g + (it.2.2.1 : Int).toNat = _
          rw [Int.toNat_natCast]
        have hP2 : ∀ y ∈ P ++ [200 * g + it.2.2.1], y ∈ allf X := fun y hy => by
          rcases List.mem_append.mp hy with h | h
          · exact hP y h
          · rw [List.mem_singleton.mp h]; exact hall
        rw [ef, h22, show 200 * (g : Int) + (it.2.2.1 : Int) = ((200 * g + it.2.2.1 : Nat) : Int) by omega, List.map_cons]
        refine ⟨by omega, by omega, by omega, ?_⟩
        have hvi : ∀ y ∈ ddF X N [] P, VI X y := ddF_vi (fun y hy => absurd hy (List.not_mem_nil)) (fun y hy => allf_vi hX y (hP y hy))
        have hll := ddF_all (N := N) hX hP
        refine CaV.on (s_301 (A := A) hSG hX (hG.tl hT) (hG.sp hN) hvi hFG (by rw [List.length_append]; omega) hg hp) ?_
        rintro G2 hS2 ⟨k1, k2⟩
        have e3 : addF X N (ddF X N [] P) (200 * g + it.2.2.1) = ddF X N [] (P ++ [200 * g + it.2.2.1]) := by rw [ddF_app]; rfl
        rw [e3] at k1
        refine ⟨by omega, ?_⟩
        rw [k2.1 227 (by decide) (by decide), hG.1 227 (by decide) (by decide)]
        have := ih _ _ _ (P ++ [200 * g + it.2.2.1]) G2 h3 hm2 hP2 hS2 (hG.tr k2) k1
        rw [List.append_assoc, List.singleton_append] at this
        exact this
      · have hk2 : it.2.1 ≠ 2 := by
          rcases h2 with h2 | h2
          · rw [h2.1]; decide
          · exact absurd h2.2.1 e2
        have ef : fnsO F c (it :: I) = fnsO F (c + it.2.2.2.2.2.length) I := by
          show (if it.2.1 = 2 then _ else _) ++ _ = _
          rw [if_neg hk2]
          rfl
        rw [ef]
        exact nx hP hSG hG hFG
  refine c_303 hS ⟨by omega, ?_⟩
  rw [Int.toNat_natCast]
  have := key I 0 _ _ P F i1 (fun e he => by rw [i2] at he; exact he) hP hS FPr.rf hF
  rw [i2] at this
  exact this
/-- all is read still, where nodes behind are made -/
theorem RA.ag {nn : Nat → Nat} (h : RA F X nn) (hA : Agf F G (nn 3)) (h1 : ∀ c, (c < 220 ∧ c ≠ 201) ∨ (245 ≤ c ∧ c ≤ 249) → G c = F c) (h2 : G 201 27 = F 201 27) : RA G X nn := by
  have hX := h.hX
  obtain ⟨a1, a2, a3, a4, a5, a6⟩ := h
  have n2 := (a5 2 (by decide)).1
  have n1 := (a5 1 (by decide)).1
  refine ⟨a1.cong (fun k hk => by rw [h1 202 (by decide)]) (fun k hk => by rw [h1 203 (by decide)]), fun f hf => (a2 f hf).cg (fun c a b => h1 c (Or.inl ⟨by omega, by omega⟩)), a3, a4, fun f hf => ?_, h2.trans a6⟩
  have hle : nn (f + 1) ≤ nn 3 := by
    have : f = 0 ∨ f = 1 ∨ f = 2 := by omega
    rcases this with e | e | e
    · subst e; exact Nat.le_trans n1 n2
    · subst e; exact n2
    · subst e; exact Nat.le_refl _
  exact (a5 f hf).cong (hA.le hle) (by rw [h1 245 (by decide)]) (by rw [h1 246 (by decide)]) (fun c i x y _ _ => by rw [h1 c (Or.inr ⟨by omega, by omega⟩)]) (by have := Ew_len hX hf; omega)
end Mi7
