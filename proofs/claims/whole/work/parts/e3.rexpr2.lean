/-! RUNNING, OF THE REFERENCE: exprs, to the end -/
section Me3
variable {F F0 G H : MF} {X : Nat → List Int} {f p k v u t c dp d lo hi e : Nat} {g : Nat → Int} {r fs : List RuF} {vs vs' T T' : List Int} {s : Nat} {res a b x w : Int} {S : RuS} {nn : Nat → Nat} {W W1 W2 : List Int}
theorem Rp_bx {K : List Int} : ∀ (d lo hi v : Nat) (W : List Int) (fi : Int), Rp F K d lo hi v W fi → 1 ≤ sm bx W ∧ 1 ≤ W.length := by
  intro d
  cases d with
  | zero => intro lo hi v W fi h; exact absurd h (fun h => h)
  | succ d =>
    intro lo hi v W fi h
    have one : ∀ (V : List Int) (o p e : Nat), 14 ≤ o ∧ o < 256 → 1 ≤ sm bx (V ++ [mk o p e]) ∧ 1 ≤ (V ++ [mk o p e]).length := fun V o p e h => by
      rw [sm_app, sm_cons, bx_1 h, List.length_append, List.length_singleton]
      omega
    rcases h with ⟨-, -, -, p, -, rfl, -⟩ | ⟨-, -, u, p, W1, f1, -, -, -, -, rfl, -⟩ | ⟨-, -, u, w, m, p, W1, W2, f1, f2, -, -, -, -, -, -, -, rfl, -⟩ | ⟨o, e, W1, f1, -, rfl, -⟩ | ⟨-, -, k, p, y, W1, -, -, -, rfl, -⟩
    · exact one [] 14 p 0 (by decide)
    · exact one W1 16 p 0 (by decide)
    · exact one (W1 ++ W2) 17 p 0 (by decide)
    · exact one W1 18 o e (by decide)
    · exact one W1 15 p k (by decide)
/-- one word of an expr, behind others -/
theorem wat_last (h : Wat X f c (W ++ [w])) : Wat X f c W ∧ wrd X f (c + W.length) = w ∧ gx (Cw X f) (c + W.length) = w ∧ c + W.length < (Cw X f).length := by
  obtain ⟨h1, h2⟩ := h.app
  have h3 := h2.1
  rw [List.length_singleton] at h3
  exact ⟨h1, wrd_at h2, h2.cons.1, by omega⟩
theorem RXa_of {P : Nat → Nat → Nat → List Int → Int → Prop} (hP : ∀ a b v W fi, P a b v W fi → a ≤ v ∧ v < b) (hb : ∀ a b v W fi, P a b v W fi → 1 ≤ sm bx W ∧ 1 ≤ W.length) (hX : ∀ a b v W fi, P a b v W fi → b ≤ 1600 → RXe F0 X f dp v W) : ∀ (k lo hi : Nat) (x y : Int) (W : List Int), ArL P F0 k lo hi x y W → hi ≤ 1600 → RXa F0 X f dp k x y W := by
  intro k
  induction k with
  | zero =>
    rintro lo hi x y W ⟨h1, rfl, h3, rfl⟩ hh
    refine ⟨[], rfl, Or.inl ⟨rfl, rfl⟩, fun a h => absurd h (List.not_mem_nil), Nat.zero_le _, Nat.zero_le _, fun c F g r vs s res T R hW hd hS hfr hR hv hT K => ?_⟩
    rw [show T ++ (List.map (fun a : Nat × Int => tcd 1 a.1) []).reverse = T from List.append_nil T] at hR
    exact K F s res [] 0 rfl hS hfr hR rfl (by rw [List.length_nil]; omega) (Nat.le_refl _)
  | succ k ih =>
    rintro lo hi x y W ⟨m, v, x', y', W1, W2, fi, h1, rfl, h3, h4, rfl, h6⟩ hh
    have r1 := ArL.rng hP _ _ _ _ _ _ h1
    have r2 := hP _ _ _ _ _ h3
    obtain ⟨b1, b2⟩ := hb _ _ _ _ _ h3
    obtain ⟨as, a1, a2, a3, a4, a5, a6⟩ := ih lo m x' y' W1 h1 (by omega)
    have hv1 := hX _ _ _ _ _ h3 hh
    refine ⟨as ++ [(v, fi)], by rw [List.length_append, a1, List.length_singleton], Or.inr ⟨Nat.succ_pos k, ?_⟩, fun a ha => ?_, by rw [sm_app]; omega, by rw [List.length_append]; omega, fun c F g r vs s res T R hW hd hS hfr hR hv hT K => ?_⟩
    · rw [Int.toNat_natCast]
      rcases a2 with ⟨e, e2⟩ | ⟨e, e2⟩
      · rw [if_pos e] at h6
        rw [e2]
        exact ⟨h6, h4, rfl⟩
      · rw [if_neg (by omega)] at h6
        rw [h6.1]
        refine ArC.snoc _ _ _ (v, fi) ?_ h4 rfl
        rw [h6.2] at e2
        exact e2
    · rcases List.mem_append.mp ha with h | h
      · exact a3 a h
      · rw [List.mem_singleton.mp h]
        show v < 1600
        omega
    · obtain ⟨w1, w2⟩ := hW.app
      rw [sm_app] at hv
      rw [List.length_append] at hT K
      have et : T ++ ((as ++ [(v, fi)]).map (fun a => tcd 1 a.1)).reverse = (T ++ [tcd 1 v]) ++ (as.map (fun a => tcd 1 a.1)).reverse := by
        rw [List.map_append, List.reverse_append, List.append_assoc]
        rfl
      rw [et] at hR
      refine a6 c F g r vs s res (T ++ [tcd 1 v]) R w1 hd hS hfr hR (by omega) (by rw [List.length_append, List.length_singleton]; omega) ?_
      intro F1 s1' res1 xs m1 hxs hS1 hfr1 hR1 hm1 hc1 hs1
      refine hv1 (c + W1.length) F1 g r (xs ++ vs) s1' res1 T R w2 hd hS1 hfr1 hR1 (by rw [List.length_append]; omega) (by omega) ?_
      intro F2 s2 res2 x2 m2 hS2 hfr2 hR2 hm2 hc2 hs2
      refine K F2 s2 res2 (x2 :: xs) (m1 + m2) (by rw [List.length_cons, hxs]) hS2 hfr2 (by rw [← Nat.add_assoc]; exact hR2) (by rw [← Nat.add_assoc]; exact rsn_app m1 _ hm1 hm2) (by omega) (by omega)
/-- the tasks of a call -/
theorem l_285 {as : List (Nat × Int)} {R : MF → Prop} (hS : St F) (hR : RunM F (fs, vs, s, res) T) (hnd : ∀ c, 221 ≤ c → c ≤ 229 → F c = F0 c) (h : ArC F0 x as (-1)) (hb : ∀ a ∈ as, a.1 < 1600) (hT : T.length + as.length < 4000)
    (K : ∀ F', St F' → frR F F' → RunM F' (fs, vs, s, res) (T ++ (as.map (fun a => tcd 1 a.1)).reverse) → R F') : L_285_68 (as.length : Int) ((T.length + as.length : Nat) : Int) x 0 F R m_no := by
  obtain ⟨la, hla⟩ : ∃ la, la = as.map (fun a => tcd 1 a.1) := ⟨_, rfl⟩
  have ll : la.length = as.length := by rw [hla, List.length_map]
  rw [← hla] at K
  have hR' := hR
  obtain ⟨⟨k1, k2⟩, -⟩ := hR'
  have key : ∀ (l : List (Nat × Int)) (i : Nat) (x : Int) (G : MF), i + l.length = as.length → as.drop i = l → ArC F0 x l (-1) → St G → (∀ c, c ≠ 258 → G c = F c) → (∀ q, q < T.length → G 258 q = F 258 q) → (∀ j, j < i → G 258 (T.length + (as.length - 1 - j)) = gx la j) → L_285_68 (as.length : Int) ((T.length + as.length : Nat) : Int) x (i : Int) G R m_no := by
    intro l
    induction l with
    | nil =>
      intro i x G hi hl hA hSG hz ho hj
      have hi2 : i = as.length := hi
      refine b_285_68 hSG ⟨fun h => by omega, fun _ => ?_⟩
      refine K _ (hSG.fld kd_201 rk_12_82) ⟨fun c y z => by rw [up_row y, hz c (by omega)], fun j y z w u => by rw [u_ne (Or.inr y), hz 201 (by decide)]⟩ (hR.ts ?_ (fun q hq => ?_) (fun j hj => by rw [u_ne (Or.inr hj), hz 201 (by decide)]) (fun c y z => by rw [up_row y, hz c z]))
      · rw [u_eq, List.length_append, List.length_reverse, ll]
      · rw [List.length_append, List.length_reverse, ll] at hq
        rw [u_ne (Or.inl (by decide)), gx_app]
        by_cases e : q < T.length
        · rw [if_pos e, ho q e]
          exact k2 q e
        · rw [if_neg e, gx_rev (by omega), ll]
          have := hj (as.length - 1 - (q - T.length)) (by omega)
          rw [show T.length + (as.length - 1 - (as.length - 1 - (q - T.length))) = q by omega] at this
          exact this
    | cons a l ih =>
      rintro i x G hi hl ⟨e1, e2, e3⟩ hSG hz ho hj
      rw [List.length_cons] at hi
      have hi2 : i < as.length := by omega
      have ea : as[i]'hi2 = a ∧ as.drop (i + 1) = l := by
        have := List.drop_eq_getElem_cons hi2
        rw [hl] at this
        injection this with h1 h2
        exact ⟨h1.symm, h2.symm⟩
      have ga : gx la i = tcd 1 a.1 := by
        rw [hla]
        unfold gx
        rw [List.getD_eq_getElem?_getD, List.getElem?_map, List.getElem?_eq_getElem hi2, ea.1]
        rfl
      have hb1 := hb a (by rw [← ea.1]; exact List.getElem_mem hi2)
      refine b_285_68 hSG ⟨fun _ => ?_, fun h => by omega⟩
      rw [e1, Int.toNat_natCast, hz 227 (by decide), hnd 227 (by decide) (by decide), show (i : Int) + 1 = ((i + 1 : Nat) : Int) by omega, show (((T.length + as.length : Nat) : Int) - 1 - (i : Int)).toNat = T.length + (as.length - 1 - i) by omega]
      refine ⟨by omega, by omega, by omega, by omega, by omega, by omega, ?_⟩
      refine ih (i + 1) _ _ (by omega) ea.2 e3 (hSG.arr kd_258 (by decide)) (fun c hc => by rw [up_row hc]; exact hz c hc) (fun q hq => by rw [u_ne (Or.inr (by omega))]; exact ho q hq) (fun j hj2 => ?_)
      by_cases e : j = i
      · subst e
        rw [u_eq, ga]
        unfold tcd
        omega
      · rw [u_ne (Or.inr (by omega))]
        exact hj j (by omega)
  exact key as 0 x F (by omega) rfl h hS (fun _ _ => rfl) (fun _ _ => rfl) (fun j hj => absurd hj (Nat.not_lt_zero j))
theorem d289 {R : MF → Prop} {y : Int} (hS : St F) : (∀ k : Nat, k = 2 → C_280 F (fun r82 F79 => C_280 F79 (fun r86 F83 => (0 ≤ y ∧ y < 1600) ∧ C_279 (g_286 F83 (F83 222 y.toNat) r86 r82) F83 R m_no) m_no) m_no → C_289 (k : Int) y F R m_no) ∧
    (∀ k : Nat, k = 3 → C_280 F (fun r68 F65 => (((if r68 < 0 then (-1 : Int) else if r68 = 0 then 0 else 1) = 0 → C_279 1 F65 R m_no) ∧ (¬ ((if r68 < 0 then (-1 : Int) else if r68 = 0 then 0 else 1) = 0) → C_279 0 F65 R m_no))) m_no → C_289 (k : Int) y F R m_no) ∧
    (∀ k : Nat, k = 8 → C_288 y F R m_no → C_289 (k : Int) y F R m_no) := by
  refine ⟨fun k hk h => ?_, fun k hk h => ?_, fun k hk h => ?_⟩
  · exact c_289 hS ⟨fun h => by omega, fun _ => ⟨fun h => by omega, fun _ => ⟨fun _ => h, fun h => by omega⟩⟩⟩
  · exact c_289 hS ⟨fun h => by omega, fun _ => ⟨fun h => by omega, fun _ => ⟨fun h => by omega, fun _ => ⟨fun _ => h, fun h => by omega⟩⟩⟩⟩
  · exact c_289 hS ⟨fun h => by omega, fun _ => ⟨fun h => by omega, fun _ => ⟨fun h => by omega, fun _ => ⟨fun h => by omega, fun _ => ⟨fun h => by omega, fun _ => ⟨fun h => by omega, fun _ => ⟨fun h => by omega, fun _ => ⟨fun h => by omega, fun _ => ⟨fun _ => h, fun h => by omega⟩⟩⟩⟩⟩⟩⟩⟩⟩
theorem prv_286 {F : MF} {x0 x1 x3 : Int} : g_286 F x0 x1 x3 = prv x0 x1 x3 := by
  have : g_286 F x0 x1 x3 = g_88 F x0 x1 x3 := rfl
  rw [this, prv_88]
theorem RXe_of (hK : LKd F0 X nn) (hF : 0 < dp → FRM F0 X dp) (hf : f < 3) : ∀ (d lo hi v : Nat) (W : List Int) (fi : Int), Rp F0 (ks X f) d lo hi v W fi → hi ≤ 1600 → RXe F0 X f dp v W := by
  have hX := hK.1.hX
  have lk := toks_len hX hf
  intro d
  induction d with
  | zero => intro lo hi v W fi h; exact absurd h (fun h => h)
  | succ d ih =>
    intro lo hi v W fi hRp hh
    have rg := Rp.rng _ _ _ _ _ _ hRp
    have hv16 : v < 1600 := by omega
    rcases hRp with ⟨h1, -, -, p, h2, rfl, -⟩ | ⟨h1, -, u, p, W1, f1, h3, h4, h5, h2, rfl, -⟩ | ⟨h1, -, u, w, m, p, W1, W2, f1, f2, h3, h4, h5, h6, h7, h8, h9, rfl, -⟩ | ⟨o, e, W1, f1, h1, rfl, -⟩ | ⟨h1, -, k, p, y, W1, h2, h4, h5, rfl, -, hp⟩
    · -- a plain node
      intro c F g r vs s res T R hW hd hS hfr hR hv hT K
      have hc : c < (Cw X f).length := by have := hW.1; rw [List.length_singleton] at this; omega
      have hw := hW.cons.1
      have hwc := Cw_wc hX hf hc
      rw [hw] at hwc
      obtain ⟨hp, hk⟩ := mk14 hwc
      have hbx : sm bx [mk 14 p 0] = 1 := by rw [sm_cons, bx_1 (by decide)]; rfl
      rw [hbx] at hv
      rw [List.length_singleton] at hT K
      refine rpop (how := 1) hS hR (by omega) (by decide) (by omega) (fun G hSG hG hRG => d289_1 hSG ?_)
      have hfG := hfr.tr hG
      refine c_285 hSG ?_
      rw [Int.toNat_natCast, hfG.nd 221 (by decide) (by decide), h1]
      refine ⟨by omega, fun _ => ?_, fun h => absurd rfl h⟩
      refine CaL.on (s_284 hK hSG hfG hRG (by omega) hv16 h2 hp hk hc hw) ?_
      rintro x F1 hS1 ⟨rfl, rfl⟩
      refine CaV.on (s_279 hS1 hRG (by omega)) ?_
      rintro F2 hS2 ⟨k1, k2⟩
      exact K F2 s res _ 1 hS2 (hfG.tr k2) k1 (rsn_one (by rw [rst_at (wrd_at hW), rsw14 hp, rgo_ok (by rw [List.length_cons]; omega)])) (by omega) (Nat.le_refl _)
    · -- NOT
      intro c F g r vs s res T R hW hd hS hfr hR hv hT K
      obtain ⟨w1, w2, -, -⟩ := wat_last hW
      rw [sm_app, sm_cons, bx_1 (by decide)] at hv
      rw [List.length_append, List.length_singleton] at hT K
      refine rpop (how := 1) hS hR (by omega) (by decide) (by omega) (fun G hSG hG hRG => d289_1 hSG ?_)
      have hfG := hfr.tr hG
      refine c_285 hSG ?_
      rw [Int.toNat_natCast, hfG.nd 221 (by decide) (by decide), h1]
      refine ⟨by omega, fun h => absurd h (by decide), fun _ => ⟨fun h => absurd h (by decide), fun _ => ⟨fun _ => ?_, fun h => absurd rfl h⟩⟩⟩
      refine CaV.on (s_278 (how := 3) (un := (v : Int)) hSG hRG (Or.inr ⟨by omega, by omega⟩) (by decide) (by omega)) ?_
      rintro F1 hS1 ⟨q1, q2⟩
      rw [tsk_n] at q1
      refine ⟨fun h => absurd h (by decide), fun _ => ⟨by omega, ?_⟩⟩
      have hf1 := hfG.tr q2
      rw [hf1.nd 224 (by decide) (by decide), h3]
      have ru := Rp.rng _ _ _ _ _ _ h5
      refine CaV.on (s_278 (how := 1) (un := (u : Int)) hS1 q1 (Or.inr ⟨by omega, by omega⟩) (by decide) (by rw [List.length_append, List.length_singleton]; omega)) ?_
      rintro F2 hS2 ⟨q3, q4⟩
      rw [tsk_n] at q3
      refine ih _ _ _ _ _ h5 (by omega) c F2 g r vs s res (T ++ [tcd 3 v]) R w1 hd hS2 (hf1.tr q4) q3 (by omega) (by rw [List.length_append, List.length_singleton]; omega) ?_
      intro F3 s3 res3 x3 m3 hS3 hfr3 hR3 hm3 hc3 hs3
      refine rpop (how := 3) hS3 hR3 (by omega) (by decide) (by omega) (fun G hSG hG hRG => (d289 hSG).2.1 3 rfl ?_)
      refine CaL.on (s_280 hSG hRG (by omega)) ?_
      rintro x4 F4 hS4 ⟨rfl, q5, q6⟩
      rw [cmp0]
      have fin : ∀ z : Int, z = (if x4 = 0 then 1 else 0) → C_279 z F4 (fun F4 => L_290_83 F4 R m_no) m_no := by
        intro z hz
        refine CaV.on (s_279 hS4 q5 (by omega)) ?_
        rintro F5 hS5 ⟨q7, q8⟩
        refine K F5 s3 res3 z (m3 + 1) hS5 (((hfr3.tr hG).tr q6).tr q8) q7 (rsn_app m3 _ hm3 (rsn_one ?_)) (by omega) hs3
        rw [rst_at w2, rsw16, ← hz, rgo_ok (by rw [List.length_cons]; omega), Nat.add_assoc]
      exact ⟨fun h => fin 1 (by rw [if_pos h]), fun h => fin 0 (by rw [if_neg h])⟩
    · -- a pair
      intro c F g r vs s res T R hW hd hS hfr hR hv hT K
      obtain ⟨w12, w3, w4, w5⟩ := wat_last hW
      obtain ⟨w1, w2⟩ := w12.app
      have hwc := Cw_wc hX hf w5
      rw [w4] at hwc
      have hp := mk16 (Or.inr rfl) hwc
      have kr := kn_rng hX hf p
      obtain ⟨bu1, bu2⟩ := Rp_bx _ _ _ _ _ _ h7
      obtain ⟨bw1, bw2⟩ := Rp_bx _ _ _ _ _ _ h8
      rw [sm_app, sm_app, sm_cons, bx_1 (by decide)] at hv
      rw [List.length_append, List.length_append, List.length_singleton] at hT K
      rw [List.length_append] at w3
      refine rpop (how := 1) hS hR (by omega) (by decide) (by omega) (fun G hSG hG hRG => d289_1 hSG ?_)
      have hfG := hfr.tr hG
      refine c_285 hSG ?_
      rw [Int.toNat_natCast, hfG.nd 221 (by decide) (by decide), h1]
      refine ⟨by omega, fun h => absurd h (by decide), fun _ => ⟨fun h => absurd h (by decide), fun _ => ⟨fun h => absurd h (by decide), fun _ => ?_⟩⟩⟩
      refine CaV.on (s_278 (how := 2) (un := (v : Int)) hSG hRG (Or.inr ⟨by omega, by omega⟩) (by decide) (by omega)) ?_
      rintro F1 hS1 ⟨q1, q2⟩
      rw [tsk_n] at q1
      refine ⟨fun _ => ⟨by omega, ?_⟩, fun h => absurd rfl h⟩
      have hf1 := hfG.tr q2
      rw [hf1.nd 225 (by decide) (by decide), h4]
      have ru := Rp.rng _ _ _ _ _ _ h7
      have rw' := Rp.rng _ _ _ _ _ _ h8
      refine CaV.on (s_278 (how := 1) (un := (w : Int)) hS1 q1 (Or.inr ⟨by omega, by omega⟩) (by decide) (by rw [List.length_append, List.length_singleton]; omega)) ?_
      rintro F2 hS2 ⟨q3, q4⟩
      rw [tsk_n] at q3
      have hf2 := hf1.tr q4
      rw [hf2.nd 224 (by decide) (by decide), h3]
      refine ⟨by omega, ?_⟩
      refine CaV.on (s_278 (how := 1) (un := (u : Int)) hS2 q3 (Or.inr ⟨by omega, by omega⟩) (by decide) (by rw [List.length_append, List.length_append, List.length_singleton, List.length_singleton]; omega)) ?_
      rintro F3 hS3 ⟨q5, q6⟩
      rw [tsk_n] at q5
      refine ih _ _ _ _ _ h7 (by omega) c F3 g r vs s res _ R w1 hd hS3 (hf2.tr q6) q5 (by omega) (by rw [List.length_append, List.length_append, List.length_singleton, List.length_singleton]; omega) ?_
      intro F4 s4 res4 x4 m4 hS4 hfr4 hR4 hm4 hc4 hs4
      refine ih _ _ _ _ _ h8 (by omega) _ F4 g r (x4 :: vs) s4 res4 _ R w2 hd hS4 hfr4 hR4 (by rw [List.length_cons]; omega) (by rw [List.length_append, List.length_singleton]; omega) ?_
      intro F5 s5 res5 x5 m5 hS5 hfr5 hR5 hm5 hc5 hs5
      refine rpop (how := 2) hS5 hR5 (by omega) (by decide) (by omega) (fun G hSG hG hRG => (d289 hSG).1 2 rfl ?_)
      refine CaL.on (s_280 hSG hRG (by rw [List.length_cons]; omega)) ?_
      rintro x6 F6 hS6 ⟨rfl, q7, q8⟩
      refine CaL.on (s_280 hS6 q7 (by omega)) ?_
      rintro x7 F7 hS7 ⟨rfl, q9, q10⟩
      have hf7 := ((hfr5.tr hG).tr q8).tr q10
      rw [Int.toNat_natCast, hf7.nd 222 (by decide) (by decide), h9, prv_286]
      refine ⟨by omega, ?_⟩
      refine CaV.on (s_279 hS7 q9 (by omega)) ?_
      rintro F8 hS8 ⟨q11, q12⟩
      refine K F8 s5 res5 _ ((m4 + m5) + 1) hS8 (hf7.tr q12) q11 (rsn_app (m4 + m5) _ (rsn_app m4 _ hm4 hm5) (rsn_one ?_)) (by omega) (by omega)
      rw [rst_at (show wrd X f (c + W1.length + W2.length) = mk 17 p 0 by rw [Nat.add_assoc]; exact w3), rsw17 hp, rgo_ok (by rw [List.length_cons]; omega), show c + W1.length + W2.length + 1 = c + (W1.length + W2.length + 1) by omega]
    · -- a group
      intro c F g r vs s res T R hW hd hS hfr hR hv hT K
      obtain ⟨w1, w2, -, -⟩ := wat_last hW
      rw [sm_app, sm_cons, bx_1 (by decide)] at hv
      rw [List.length_append, List.length_singleton] at hT K
      refine ih _ _ _ _ _ h1 hh c F g r vs s res T R w1 hd hS hfr hR (by omega) (by omega) ?_
      intro F3 s3 res3 x3 m3 hS3 hfr3 hR3 hm3 hc3 hs3
      refine K F3 s3 res3 x3 (m3 + 1) hS3 hfr3 hR3 (rsn_app m3 _ hm3 (rsn_one ?_)) (by omega) hs3
      rw [rst_at w2, rsw18, rgo_ok (by rw [List.length_cons]; omega), Nat.add_assoc]
    · -- a call
      have g := ArL.rng (Rp.rng (F := F0) (K := ks X f) d) _ _ _ _ _ _ h4
      obtain ⟨as, a1, a2, a3, a4, a5, a6⟩ := RXa_of (f := f) (dp := dp) (X := X) (Rp.rng (F := F0) (K := ks X f) d) (Rp_bx d) ih _ _ _ _ _ _ h4 hh
      have hch : ArC F0 (F0 224 v) as (-1) := by
        rcases a2 with ⟨e, e2⟩ | ⟨e, e2⟩
        · rw [e2]
          show F0 224 v = -1
          omega
        · have := h5 (by omega)
          rwa [this] at e2
      intro c F g' r vs s res T R hW hd hS hfr hR hv hT K
      obtain ⟨w1, w2, w3, w4⟩ := wat_last hW
      rw [sm_app, sm_cons, bx_1 (by decide)] at hv
      rw [List.length_append, List.length_singleton] at hT K
      have arC : ∀ G, frR F0 G → ArC G (F0 224 v) as (-1) := fun G hG => ArC.cong (fun c x y => hG.nd c (by omega) (by omega)) _ _ _ hch
      refine rpop (how := 1) hS hR (by omega) (by decide) (by omega) (fun G hSG hG hRG => d289_1 hSG ?_)
      have hfG := hfr.tr hG
      refine c_285 hSG ?_
      rw [Int.toNat_natCast, hfG.nd 221 (by decide) (by decide), h1]
      refine ⟨by omega, fun h => absurd h (by decide), fun _ => ⟨fun _ => ?_, fun h => absurd rfl h⟩⟩
      refine CaV.on (s_278 (how := 8) (un := (v : Int)) hSG hRG (Or.inr ⟨by omega, by omega⟩) (by decide) (by omega)) ?_
      rintro F1 hS1 ⟨q1, q2⟩
      rw [tsk_n] at q1
      have hf1 := hfG.tr q2
      rw [hf1.nd 224 (by decide) (by decide)]
      refine ⟨by omega, ?_⟩
      refine CaI.on (s_269 hS1 (arC F1 hf1) a3 (by omega)) ?_
      rintro r50 F2 hS2 ⟨rfl, rfl⟩
      have tl1 : (T ++ [tcd 8 v]).length = T.length + 1 := by rw [List.length_append, List.length_singleton]
      have k82 : F2 201 82 = ((T ++ [tcd 8 v]).length : Int) := q1.1.1
      rw [hf1.nd 224 (by decide) (by decide), k82, show ((T ++ [tcd 8 v]).length : Int) + (as.length : Int) = (((T ++ [tcd 8 v]).length + as.length : Nat) : Int) by omega]
      refine ⟨by omega, by omega, ?_⟩
      refine l_285 hS2 q1 (fun c x y => hf1.nd c (by omega) (by omega)) hch a3 (by omega) ?_
      intro F3 hS3 q3 q4
      refine a6 c F3 g' r vs s res (T ++ [tcd 8 v]) R w1 hd hS3 (hf1.tr q3) q4 (by omega) (by omega) ?_
      intro F4 s4 res4 xs m4 hxs hS4 hfr4 hR4 hm4 hc4 hs4
      refine rpop (how := 8) hS4 hR4 (by omega) (by decide) (by omega) (fun G hSG hG hRG => (d289 hSG).2.2 8 rfl ?_)
      have hf5 := hfr4.tr hG
      have hwc := Cw_wc hX hf w4
      rw [w3] at hwc
      have k0 := mk7 hp (Or.inr (Or.inr rfl)) hwc
      have hpl : p < (toks X f).length := kn_tok (by rw [k0]; decide)
      have hid : 200 * f + p < 600 := by omega
      have q5 := q_282 hRG (by omega) hv16 (by rw [hf5.nd 222 (by decide) (by decide)]; exact h2) (by omega)
      have top := hRG.top
      have k84 : G 201 84 = ((xs ++ vs).length : Int) := hRG.2.1.1
      have lx : (xs ++ vs).length = k + vs.length := by rw [List.length_append, hxs]
      have dx : (xs ++ vs).drop k = vs := by rw [← hxs, List.drop_left]
      refine c_288 hSG ?_
      rw [q5.1, Int.toNat_natCast, Int.toNat_natCast, hf5.nd 224 (by decide) (by decide)]
      refine ⟨q5.2, by omega, by omega, ?_⟩
      refine CaI.on (s_269 hSG (arC G hf5) a3 (by omega)) ?_
      rintro r4 F6 hS6 ⟨rfl, rfl⟩
      rw [hf5.nd 253 (by decide) (by decide), hK.2.1 _ hid, top.1, top.2.2.2.2.1, k84, a1]
      have none' : (bnd X (200 * f + p) = -1 ∨ 200 ≤ s4 ∨ 4 ≤ r.length + 1) → C_279 0 (m_up F6 201 84 (((xs ++ vs).length : Int) - (k : Int))) (fun F4 => L_290_83 F4 R m_no) m_no := by
        intro cc
        have hRd := hRG.drop (k := k) (by omega)
        rw [dx] at hRd
        refine CaV.on (s_279 (hS6.fld kd_201 rk_12_84) hRd (by omega)) ?_
        rintro F7 hS7 ⟨q7, q8⟩
        refine K F7 s4 res4 0 (m4 + 1) hS7 ((hf5.tr (frR.rf.fl (by decide))).tr q8) q7 (rsn_app m4 _ hm4 (rsn_one ?_)) (by omega) hs4
        rw [rst_at w2, rsw15 hp, if_neg (by omega), if_pos cc, dx, rgo_ok (by rw [List.length_cons]; omega), Nat.add_assoc]
      refine ⟨fun cc => ⟨by omega, none' (Or.inl cc)⟩, fun cc => ⟨fun c2 => ⟨by omega, none' (Or.inr (Or.inl (by omega)))⟩, fun c2 => ⟨fun c3 => ⟨by omega, none' (Or.inr (Or.inr (by omega)))⟩, fun c3 => ⟨by omega, ?_⟩⟩⟩⟩
      have br := bnd_rng hX (200 * f + p) hid
      obtain ⟨z, hz⟩ : ∃ z : Nat, bnd X (200 * f + p) = (z : Int) := ⟨(bnd X (200 * f + p)).toNat, by omega⟩
      have hx := (bnd_call (e := k) hX hf w4 w3 hp hz).2
      have s4' := top.2.2.2.2.2
      have hdp : 0 < dp := by omega
      rw [hz]
      have hRs := hRG.st (by omega)
      refine CaV.on (s_287 (F0 := F0) (nn := nn) (k := k) hK (hS6.fld kd_201 rk_12_88) (hf5.tr (frR.rf.fl (by decide))) (hRs.pl (q := c + W1.length + 1) (res' := res4)) (by omega) hx (by omega) (by omega) (by show r.length + 1 < 4; omega) (by omega)) ?_
      rintro F8 hS8 ⟨it, cp, lo', hi', i1, i2, i3, i4, i5, i6⟩
      unfold ren at i5
      rw [i4, dx] at i5
      refine hF hdp (z / 200) it cp lo' hi' F8 _ ((f, c + W1.length + 1, g') :: r) vs (s4 + 1) res4 T R (by omega) i1 i2 i3 (by show r.length + 1 + dp = 4; omega) hS8 ((hf5.tr (frR.rf.fl (by decide))).tr i6) i5 (by rw [List.length_cons]; omega) (by rw [List.length_cons]; omega) ?_
      intro F9 s9 x9 m9 hS9 hfr9 hR9 hm9 hc9 hs9
      refine K F9 s9 x9 x9 (m4 + (1 + m9)) hS9 hfr9 hR9 ?_ (by omega) (by omega)
      refine rsn_app m4 _ hm4 (rsn_app 1 _ (rsn_one ?_) hm9)
      rw [rst_at w2, rsw15 hp, if_neg (by omega), if_neg (by omega), hz, Int.toNat_natCast]
      unfold ren
      rw [i4, dx, Nat.add_assoc]
end Me3
