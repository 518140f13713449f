/-! COMPLETIONS, OF THE REFERENCE: all -/
def SFr (F F' : MF) : Prop := (∀ j, ¬ (23 ≤ j ∧ j ≤ 63) → j ≠ 94 → F' 201 j = F 201 j) ∧ fr (fun c => c = 201 ∨ (220 ≤ c ∧ c ≤ 244) ∨ c = 264 ∨ c = 265) F F'
section Mi8
variable {F G : MF} {X : Nat → List Int} {K C : List Int} {f g k m n p v : Nat} {A L M P : List Nat} {N : List Int} {R : MF → Prop} {x3 : Int}
theorem LtZ.cong (h : ∀ c, 221 ≤ c → c ≤ 229 → G c = F c) : ∀ (k : Nat) (x z : Int) (L : List Int), LtZ F k x z L → LtZ G k x z L
  | 0, x, z, L, h1 => h1
  | k + 1, x, z, L, ⟨u, L', h1, h2, h3, h4⟩ => ⟨u, L', h1, h2, by rw [h 221 (by decide) (by decide), h 222 (by decide) (by decide)]; exact h3, by rw [h 227 (by decide) (by decide)]; exact LtZ.cong h k _ _ _ h4⟩
theorem sat_sfo : ∀ i, i ≤ C.length → sat C i = sfo ss0 (C.take i)
  | 0, _ => by rw [List.take_zero]; rfl
  | i + 1, hi => by
    rw [List.take_succ_eq_append_getElem (show i < C.length by omega), sfo_app, ← sat_sfo i (by omega)]
    show sstep (sat C i) (gx C i) = sstep (sat C i) (C[i]'(by omega))
    congr 1
    unfold gx
    rw [List.getD_eq_getElem?_getD, List.getElem?_eq_getElem (show i < C.length by omega)]
    rfl
/-- the variables of the open blocks -/
theorem l_304a (hX : ∀ r, r < 24 → Rok (X r)) (hf : f < 3) (hT : TL F X) (hN : SpM F N) : ∀ (i : Nat) (Bs : List (List Int)) (G : MF) (L : List Nat), BL F i Bs → St G → FPw F G → i ≤ 200 → (∀ k, k < i → F 237 k = F 233 k) → TVs X f Bs.flatten → Bs.flatten.length ≤ 200 → FDr G L → (∀ y ∈ L, VI X y) → L.length + Bs.flatten.length ≤ 300 →
    (∀ G', St G' → FPw F G' → FDr G' (ddF X N L (Bs.flatten.map (lid f))) → L_304_39 (f : Int) x3 (-1) G' R m_no) → L_304_39 (f : Int) x3 ((i : Int) - 1) G R m_no := by
  intro i
  induction i with
  | zero =>
    intro Bs G L hB hS hW _ _ _ _ hF _ _ hR
    change Bs = [] at hB
    subst hB
    exact hR G hS hW hF
  | succ i ih =>
    rintro Bs G L ⟨T, r, rfl, ⟨b, k, h1, h2, h3⟩, hB⟩ hS hW hi h237 hV hl hF hL hLl hR
    have hlen : (T.reverse :: r).flatten.length = T.length + r.flatten.length := by rw [List.flatten_cons, List.length_append, List.length_reverse]
    rw [hlen] at hl hLl
    have e237 : G 237 i = (b : Int) := by rw [hW.1 237 (by decide) (by decide) (by decide), h237 i (by omega), h1]
    rw [show ((i + 1 : Nat) : Int) - 1 = (i : Int) by omega]
    refine b_304_39 hS ⟨fun h => by omega, fun _ => ⟨by omega, ?_⟩⟩
    rw [Int.toNat_natCast, e237]
    have hnd : ∀ c, 221 ≤ c → c ≤ 229 → G c = F c := fun c a b => hW.1 c (by omega) (by omega) (by omega)
    have s3 := s_302 (N := N) (L := L) (T := T) (k := k) hS hX (hW.tl hT) (hW.sp hN) hf h2 (by rw [hnd 224 (by decide) (by decide)]; exact h3.cong hnd) (fun t ht => hV t (by rw [List.flatten_cons]; exact List.mem_append_left _ (List.mem_reverse.mpr ht))) hL hF (by omega) (by omega)
    refine CaV.on s3 ?_
    rintro G2 hS2 ⟨k1, k2⟩
    refine ⟨by omega, ?_⟩
    rw [show (i : Int) + -1 = (i : Int) - 1 by omega]
    have hVT : TVs X f T.reverse := fun t ht => hV t (by rw [List.flatten_cons]; exact List.mem_append_left _ ht)
    have dl := (ddF_len (X := X) (N := N) (T.reverse.map (lid f)) L).2
    rw [List.length_map, List.length_reverse] at dl
    refine ih r G2 _ hB hS2 (hW.tr k2) (by omega) (fun k hk => h237 k (by omega)) (fun t ht => hV t (by rw [List.flatten_cons]; exact List.mem_append_right _ ht)) (by omega) k1 (ddF_vi hL (lid_vi hf hVT)) (by omega) ?_
    intro G' hS' hW' hF'
    refine hR G' hS' hW' ?_
    rw [List.flatten_cons, List.map_append, ddF_app]
    exact hF'
/-- the parameters -/
theorem l_304b (hX : ∀ r, r < 24 → Rok (X r)) (hf : f < 3) (hT : TL F X) (hN : SpM F N) (hP : PM F v p n) (hv : v + n < 1600) (hV : ∀ i, i < n → p + 2 + 2 * i < (toks X f).length) : ∀ (d i : Nat) (G : MF) (L : List Nat), i + d = n → St G → FPw F G → FDr G L → (∀ y ∈ L, VI X y) → L.length + d ≤ 600 →
    (∀ G', St G' → FPw F G' → FDr G' (ddF X N L (((prs' p n).drop i).map (lid f))) → L_304_105 (f : Int) x3 (-1) G' R m_no) → L_304_105 (f : Int) x3 (if i < n then ((v + 1 + i : Nat) : Int) else -1) G R m_no := by
  have lk := toks_len hX hf
  intro d
  induction d with
  | zero =>
    intro i G L hi hS hW hF _ _ hR
    rw [if_neg (by omega)]
    have := hR G hS hW
    rw [List.drop_eq_nil_of_le (by rw [prs_len]; omega)] at this
    exact this hF
  | succ d ih =>
    intro i G L hi hS hW hF hL hl hR
    have hin : i < n := by omega
    obtain ⟨-, p2, p3⟩ := hP.2 i hin
    have hvi := hV i hin
    rw [if_pos hin]
    refine b_304_105 hS ⟨fun h => by omega, fun _ => ?_⟩
    rw [Int.toNat_natCast, hW.1 222 (by decide) (by decide) (by decide), p2, show 200 * (f : Int) + ((p + 2 + 2 * i : Nat) : Int) = ((200 * f + (p + 2 + 2 * i) : Nat) : Int) by omega]
    refine ⟨by omega, by omega, by omega, ?_⟩
    refine CaV.on (s_301 (A := []) hS hX (hW.tl hT) (hW.sp hN) hL hF (by rw [List.nil_append]; omega) hf hvi) ?_
    rintro G2 hS2 ⟨k1, k2⟩
    refine ⟨by omega, ?_⟩
    have al := addF_len (X := X) (N := N) (L := L) (k := 200 * f + (p + 2 + 2 * i))
    rw [k2.1 227 (by decide) (by decide), hW.1 227 (by decide) (by decide) (by decide), p3]
    have := ih (i + 1) G2 (addF X N L (200 * f + (p + 2 + 2 * i))) (by omega) hS2 (hW.tr k2.w) k1 (VI.adf hL ⟨f, _, hf, hvi, rfl⟩) (by omega) (fun G' hS' hW' hF' => hR G' hS' hW' (by
      rw [List.drop_eq_getElem_cons (show i < (prs' p n).length by rw [prs_len]; exact hin), List.map_cons]
      have e : lid f ((prs' p n)[i]'(by rw [prs_len]; exact hin)) = 200 * f + (p + 2 + 2 * i) := by
        have e2 : (prs' p n)[i]'(by rw [prs_len]; exact hin) = (p : Int) + 2 + 2 * (i : Int) := parg n (p : Int) i _
        unfold lid
        rw [e2]
        omega
      rw [e]
      exact hF'))
    rw [show v + 1 + (i + 1) = v + 2 + i by omega] at this
    exact this
/-- the functions of the files that are used -/
theorem l_304c {nn : Nat → Nat} (hX : ∀ r, r < 24 → Rok (X r)) (hR : RA F X nn) (hN : SpM F N) (hf : f < 3) (hA : A.length ≤ 200) : ∀ (I : List IT) (c lo : Nat) (x : Int) (P : List Nat) (G : MF), ItC F (ks X f) (nn (f + 1)) x c lo I (-1) → (∀ e ∈ fnsO F c I, e ∈ Fw X f) → (∀ e ∈ useO I, e ∈ Uw X f) → (∀ y ∈ P, y ∈ allf X) → St G → FPr F G → FDr G (A ++ ddF X N [] P) →
    L_304_167 (f : Int) (A.length : Int) x G (fun F' => FDr F' (A ++ ddF X N [] (P ++ fnsU X f (useO I))) ∧ FPr F F') m_no := by
  intro I
  induction I with
  | nil =>
    intro c lo x P G hx _ _ _ hS hG hF
    refine b_304_167 hS ⟨fun _ => ⟨?_, hG⟩, fun h => absurd hx.1 h⟩
    show FDr G (A ++ ddF X N [] (P ++ []))
    rw [List.append_nil]
    exact hF
  | cons it I ih =>
    rintro c lo x P G ⟨rfl, hi, hPt, h3⟩ hm hu hP hS hG hF
    have hRG : RA G X nn := hR.cong (fun c a b => hG.1 c a (by omega)) (hG.2 27 (by decide)) hX
    have hPtG : ItP G (ks X f) c lo hi it := hPt.cong (fun c a b => hG.1 c (by omega) (by omega))
    have hq := q_254 hRG hf hPtG (fun h => it_use hX hf (it :: I) hu it (List.mem_cons_self) h) (fun h => (it_fn (F := F) hX hf (it :: I) c hm it (List.mem_cons_self) h).1)
    have h1 := hPt.1
    have nx := ih _ _ _ (P := P) (G := G) h3 (fun e he => hm e (List.mem_append_right _ he)) (fun e he => hu e (List.mem_append_right _ he)) hP hS hG hF
    refine b_304_167 hS ⟨fun h => by omega, fun _ => ⟨hq.2, ?_⟩⟩
    rw [hq.1, Int.toNat_natCast]
    by_cases k1 : it.2.1 = 1
    · have eu : useO (it :: I) = (it.2.2.1 : Int) :: useO I := by
        show (if it.2.1 = 1 then _ else _) ++ _ = _
        rw [if_pos k1]
        rfl
      have eU : fnsU X f (useO (it :: I)) = fnsI X (uf X f it.2.2.1) ++ fnsU X f (useO I) := by
        rw [eu]
        show fnsI X (uf X f (it.2.2.1 : Int).toNat) ++ _ = _
        rw [Int.toNat_natCast]
      rw [if_pos k1, eU]
      refine ⟨fun e => ⟨by omega, ?_⟩, fun e => ?_⟩
      · rw [e, show fnsI X (-1) = [] from if_neg (by decide), List.nil_append, hG.1 227 (by decide) (by decide)]
        exact nx
      · have hl := (name_let (it_use hX hf (it :: I) hu it (List.mem_cons_self) k1)).2.1
        have hu0 : 0 ≤ uf X f it.2.2.1 ∧ uf X f it.2.2.1 < 3 := by
          unfold uf at e ⊢
          split at e
          · next e1 =>
            rw [if_pos e1]
            split at e
            · next e2 => rw [if_pos e2]; omega
            · exact absurd rfl e
          · exact absurd rfl e
        obtain ⟨g, hg⟩ : ∃ g : Nat, uf X f it.2.2.1 = (g : Int) := ⟨(uf X f it.2.2.1).toNat, by omega⟩
        rw [hg] at hu0
        have efn : fnsI X (g : Int) = fns X g := by unfold fnsI; rw [if_pos hu0, Int.toNat_natCast]
        rw [hg, efn]
        refine CaV.on (s_303 (N := N) hS hX hRG (hG.sp hN) (by omega) hP hF hA) ?_
        rintro G2 hS2 ⟨k3, k4⟩
        refine ⟨by omega, ?_⟩
        rw [k4.1 227 (by decide) (by decide), hG.1 227 (by decide) (by decide), ← List.append_assoc]
        exact ih _ _ _ (P ++ fns X g) G2 h3 (fun e he => hm e (List.mem_append_right _ he)) (fun e he => hu e (List.mem_append_right _ he)) (fun y hy => (List.mem_append.mp hy).elim (hP y) (fns_all (by omega) y)) hS2 (hG.tr k4) k3
    · have eu : useO (it :: I) = useO I := by
        show (if it.2.1 = 1 then _ else _) ++ _ = _
        rw [if_neg k1]
        rfl
      rw [if_neg k1, eu, hG.1 227 (by decide) (by decide)]
      exact ⟨fun _ => ⟨by omega, nx⟩, fun h => absurd rfl h⟩
theorem SFr.tr {H : MF} (h : SFr F G) (k : SFr G H) : SFr F H := ⟨fun j a b => (k.1 j a b).trans (h.1 j a b), h.2.tr k.2⟩
theorem FPw.sf (h : FPw F G) : SFr F G := ⟨fun j _ a => h.2 j a, fun c hc => h.1 c (fun e => hc (Or.inl e)) (fun e => hc (Or.inr (Or.inr (Or.inl e)))) (fun e => hc (Or.inr (Or.inr (Or.inr e))))⟩
theorem SFr.tl (h : SFr F G) (k : TL F X) : TL G X := k.cg (fun c a b => h.2 c (by omega))
theorem SFr.sp (h : SFr F G) (k : SpM F N) : SpM G N := k.cg (h.1 6 (by decide) (by decide)) (h.2 206 (by decide))
/-- the completions at a place -/
theorem s_304 {nn : Nat → Nat} (hS : St F) (hR : RA F X nn) (hN : SpM F N) (hf : f < 3) (hm : m ≤ (toks X f).length) :
    C_304 (f : Int) (m : Int) F (fun F' => FDr F' (cmpl X f m N) ∧ SFr F F') m_no := by
  have hX := hR.hX
  have hmk : m ≤ (ks X f).length := by rw [ks_len']; exact hm
  have hkl := ks_len hX hf
  have h27 : F 201 27 = (nn 3 : Int) := hR.2.2.2.2.2
  have hn3 := hR.2.2.2.1
  have hT : TL F X := ⟨hR.1, hR.2.1⟩
  obtain ⟨F0, e0⟩ : ∃ F0, F0 = m_up F 201 94 0 := ⟨_, rfl⟩
  have hS0 : St F0 := by rw [e0]; exact hS.fld kd_201 rk_12_94
  have w0 : FPw F F0 := ⟨fun c a _ _ => by rw [e0, up_row a], fun j hj => by rw [e0, u_ne (Or.inr hj)]⟩
  have hKl : (mK (ks X f) m 24).length = m := by rw [mK_len hmk, if_pos rfl, Nat.add_zero]
  refine c_304 hS ?_
  rw [← e0]
  refine CaI.on (s_299 (n0 := nn 3) (z := 0) hS0 hX hf ((w0.tl hT).2 f hf) hm (by omega) (by rw [w0.2 27 (by decide)]; exact h27) hn3) ?_
  rintro r F2 hS2 ⟨rfl, r2⟩
  have s2 : SFr F F2 := w0.sf.tr ⟨fun j a _ => r2.1 j (by omega) (by omega) (by omega) (by omega) (by omega) (by omega) (by omega) (by omega) (by omega) (by omega) (by omega) (by omega) (by omega) (by omega), r2.2.2.mo (fun c h => by omega)⟩
  have h272 : F2 201 27 = (nn 3 : Int) := by
    rw [r2.1 27 (by decide) (by decide) (by decide) (by decide) (by decide) (by decide) (by decide) (by decide) (by decide) (by decide) (by decide) (by decide) (by decide) (by decide), w0.2 27 (by decide)]
    exact h27
  have h942 : F2 201 94 = 0 := by
    rw [r2.1 94 (by decide) (by decide) (by decide) (by decide) (by decide) (by decide) (by decide) (by decide) (by decide) (by decide) (by decide) (by decide) (by decide) (by decide), e0, u_eq]
  by_cases hb : bad X f m 0 = true
  · rw [if_pos hb]
    refine ⟨fun h => absurd h (by decide), fun _ => ⟨?_, s2⟩⟩
    rw [show cmpl X f m N = [] from if_pos hb]
    exact ⟨h942, fun i hi => absurd hi (Nat.not_lt_zero i)⟩
  rw [if_neg hb]
  refine ⟨fun _ => ?_, fun h => absurd rfl h⟩
  have ec : cmpl X f m N = ddF X N [] (lcs X f m) ++ ddF X N [] (fns X f ++ fnsU X f (Uw X f)) := by
    have e1 : cmpl X f m N = (dd X [] (lcs X f m) ++ dd X [] (fns X f ++ fnsU X f (Uw X f))).filter (beg X N) := if_neg hb
    rw [e1, List.filter_append, dd_flt, dd_flt]
    rfl
  refine CaV.on (s_247 hS2 hf (show m ≤ 192 by omega)) ?_
  rintro F8 hS8 ⟨a1, a2, a3, a4, a5⟩
  have hQ : SQ F8 (mK (ks X f) m 24) := fun i hi => by
    rw [hKl] at hi
    by_cases c : i < m
    · rw [a4 i c, (lexm_tok ((s2.tl hT).2 f hf) (show i < (toks X f).length by omega)).1, mK_lt hmk c]
    · rw [a5 i (by omega) hi]
      by_cases c2 : i = m
      · rw [c2, mK_at hmk]
      · rw [mK_end hmk (by omega)]
  have s8 : SFr F F8 := s2.tr ⟨fun j a _ => a2 j (by omega), fun c hc => a1 c (by omega) (by omega)⟩
  refine CaV.on (s_246 (n0 := nn 3) hS8 hQ (by omega) (fun i hi => mK_no hmk (fun i hi => ks_no hX hf hi) hi) (by omega) (by rw [a2 27 (by decide)]; exact h272)) ?_
  rintro F12 hS12 ⟨b1, N', b2, b3, -, -, b4⟩
  have s12 : SFr F F12 := s8.tr ⟨fun j a _ => b1.1 j (by omega) (by omega) (by omega) (by omega) (by omega) (by omega) (by omega) (by omega) (by omega) (by omega) (by omega) (by omega) (by omega) (by omega), b1.2.2.mo (fun c h => by omega)⟩
  have ag12 : Agf F F12 (nn 3) := fun c i x y w => by
    rw [b1.2.1 c i x y w, a1 c (by omega) (by omega), r2.2.1 c i x y w, w0.1 c (by omega) (by omega) (by omega)]
  have h94 : F12 201 94 = 0 := by
    rw [b1.1 94 (by decide) (by decide) (by decide) (by decide) (by decide) (by decide) (by decide) (by decide) (by decide) (by decide) (by decide) (by decide) (by decide) (by decide), a2 94 (by decide)]
    exact h942
  have fd12 : FDr F12 [] := ⟨h94, fun i hi => absurd hi (Nat.not_lt_zero i)⟩
  have hT12 := s12.tl hT
  have hN12 := s12.sp hN
  rw [h272]
  have lo := lcs_ok hX hf hmk
  have al : (ddF X N [] (lcs X f m)).length ≤ 97 := by
    have := (ddF_len (X := X) (N := N) (lcs X f m) []).2
    have := lo.2
    rw [List.length_nil] at *
    omega
  -- behind the names of the blocks
  have fin : ∀ G, St G → FPw F12 G → FDr G (ddF X N [] (lcs X f m)) → L_304_105 (f : Int) (nn 3 : Int) (-1) G (fun F' => FDr F' (cmpl X f m N) ∧ SFr F F') m_no := by
    intro G hSG hW hF
    refine b_304_105 hSG ⟨fun _ => ?_, fun h => absurd rfl h⟩
    obtain ⟨G1, e1⟩ : ∃ G1, G1 = m_up G 201 27 (nn 3 : Int) := ⟨_, rfl⟩
    have hS1 : St G1 := by rw [e1]; exact hSG.fld kd_201 rk_12_27
    rw [← e1]
    have s1 : SFr F G1 := s12.tr (hW.sf.tr ⟨fun j a _ => by rw [e1, u_ne (Or.inr (by omega))], fun c hc => by rw [e1, up_row (fun e => hc (Or.inl e))]⟩)
    have hR1 : RA G1 X nn := hR.ag (fun c i x y w => by rw [e1, up_row (by omega), hW.1 c (by omega) (by omega) (by omega)]; exact ag12 c i x y w) (fun c hc => s1.2 c (by omega)) (by rw [e1, u_eq]; exact h27.symm)
    have hF1 : FDr G1 (ddF X N [] (lcs X f m) ++ ddF X N [] []) := by
      show FDr G1 (_ ++ [])
      rw [List.append_nil]
      unfold FDr at hF ⊢
      rw [e1, u_ne (Or.inr (by decide)), up_row (by decide)]
      exact hF
    obtain ⟨I, i1, i2, i3, -⟩ := hR1.its hf
    rw [hF.1]
    refine CaV.on (s_303 (P := []) hS1 hX hR1 (s1.sp hN) hf (fun y hy => absurd hy (List.not_mem_nil)) hF1 (by omega)) ?_
    rintro G2 hS2' ⟨k1, k2⟩
    refine ⟨by omega, ?_⟩
    rw [List.nil_append] at k1
    rw [Int.toNat_natCast, k2.1 245 (by decide) (by decide)]
    have := l_304c (A := ddF X N [] (lcs X f m)) (N := N) hX hR1 (s1.sp hN) hf (by omega) I 0 _ _ (fns X f) G2 i1 (fun e he => by rw [i2] at he; exact he) (fun e he => by rw [i3] at he; exact he) (fns_all hf) hS2' k2 k1
    rw [i3] at this
    refine EvV.mono this ?_ (fun _ _ _ h => h)
    rintro F' _ ⟨u1, u2⟩
    rw [ec]
    exact ⟨u1, s1.tr u2.w.sf⟩
  obtain ⟨⟨⟨yI, yV, yF, -, -⟩, y1⟩, -⟩ := yst_ok hX hf hmk
  have hlc : lcs X f m = if (yst X f m).2.1 = [] then [] else (cand (sat (yst X f m).2.2.1 (yst X f m).2.2.1.length)).map (lid f) := rfl
  have hAE : AE F12 (mK (ks X f) m 24) (nn 3) N' (yst X f m) := b4
  generalize yst X f m = y at *
  obtain ⟨ya, S, C, E, Fn, U⟩ := y
  change lcs X f m = if S = [] then [] else (cand (sat C C.length)).map (lid f) at hlc
  obtain ⟨q0, q1⟩ := hAE
  change S = [] → F12 201 46 = 0 at q0
  change S ≠ [] → F12 201 46 = (S.length : Int) ∧ (∀ k, k < S.length → F12 237 k = F12 233 k) ∧ CU F12 (mK (ks X f) m 24) (nn 3) S C Fn U N' at q1
  have hSl : S.length ≤ 195 := by
    have a := yI.2.2.1
    have b := yI.1
    change E.length + S.length ≤ ya at a
    change ya ≤ _ at b
    omega
  by_cases hs : S = []
  · rw [if_pos hs] at hlc
    rw [q0 hs]
    refine ⟨by omega, ?_⟩
    refine b_304_39 hS12 ⟨fun _ => ⟨fun _ => fin F12 hS12 FPw.rf (by rw [hlc]; exact fd12), fun h => absurd (q0 hs) h⟩, fun h => absurd (by decide) h⟩
  · rw [if_neg hs] at hlc
    obtain ⟨c1, c2, c3⟩ := q1 hs
    obtain ⟨Bs, p, n, t1, t2, t3, b, v, v1, v2, v3, v4, v5, v6⟩ := CU.sf (fun e he => by
      obtain ⟨p, n, i, h1, h2, -⟩ := yF e he
      exact ⟨p, h1, h2⟩) c3 (by omega)
    have so := sat_ok (C := C) (fun i hi => WC.tk hmk (yV.1.1 _ (gx_mem hi))) hX hf C.length (Nat.le_refl _)
    have es : sat C C.length = sfo ss0 C := by rw [sat_sfo C.length (Nat.le_refl _), List.take_length]
    rw [es] at so hlc
    have ep : pars (sfo ss0 C) = prs' p n := by
      unfold pars prs'
      rw [t2]
      show (List.range (n : Int).toNat).map _ = _
      rw [Int.toNat_natCast]
    have ecd : cand (sfo ss0 C) = Bs.flatten ++ prs' p n := by unfold cand; rw [t1, ep]
    rw [ecd] at so hlc
    have hSp : 0 < S.length := List.length_pos_iff.mpr hs
    have hll := lo.2
    rw [hlc, List.length_map, List.length_append, prs_len] at hll
    rw [c1]
    refine ⟨by omega, ?_⟩
    refine l_304a (F := F12) hX hf hT12 hN12 S.length Bs F12 [] t3 hS12 FPw.rf (by omega) c2 (fun t ht => so.2.2.1 t (List.mem_append_left _ ht)) (by omega) fd12 (fun y hy => absurd hy (List.not_mem_nil)) (by rw [List.length_nil]; omega) ?_
    intro G hSG hW hF
    have g46 : G 201 46 = (S.length : Int) := by rw [hW.2 46 (by decide)]; exact c1
    have g237 : G 237 0 = (b : Int) := by rw [hW.1 237 (by decide) (by decide) (by decide), c2 0 hSp]; exact v1
    have g226 : G 226 b = (v : Int) := by rw [hW.1 226 (by decide) (by decide) (by decide)]; exact v3
    have g224 : G 224 v = if 0 < n then ((v + 1 + 0 : Nat) : Int) else -1 := by
      rw [hW.1 224 (by decide) (by decide) (by decide), v5.1]
      by_cases c : n = 0
      · rw [if_pos c, if_neg (by omega)]
      · rw [if_neg c, if_pos (by omega)]
    refine b_304_39 hSG ⟨fun _ => ⟨fun h => by omega, fun _ => ?_⟩, fun h => absurd (by decide) h⟩
    rw [show (0 : Int).toNat = 0 from rfl, g237, Int.toNat_natCast, g226, Int.toNat_natCast, g224]
    refine ⟨by omega, fun h => by omega, fun _ => ⟨by omega, ?_⟩⟩
    have hvB : ∀ y ∈ ddF X N [] (Bs.flatten.map (lid f)), VI X y := ddF_vi (fun y hy => absurd hy (List.not_mem_nil)) (lid_vi hf (fun t ht => so.2.2.1 t (List.mem_append_left _ ht)))
    have hbl := (ddF_len (X := X) (N := N) (Bs.flatten.map (lid f)) []).2
    rw [List.length_map, List.length_nil] at hbl
    refine l_304b (F := F12) hX hf hT12 hN12 v5 v4 (fun i hi => ?_) n 0 G _ (by omega) hSG hW hF hvB (by omega) ?_
    · obtain ⟨k, k1, k2⟩ := so.2.2.1 (gx (prs' p n) i) (List.mem_append_right _ (gx_mem (by rw [prs_len]; exact hi)))
      rw [prs_gx hi] at k1
      omega
    · intro G' hS' hW' hF'
      refine fin G' hS' hW' ?_
      rw [hlc, List.map_append, ddF_app]
      exact hF'
end Mi8
