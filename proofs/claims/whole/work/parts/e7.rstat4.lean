/-! RUNNING, OF THE REFERENCE: IF; all statements; functions; a run -/
section Me7
variable {F F0 G H : MF} {X : Nat → List Int} {f p k v u t c c1 dp d lo hi e o fn q l m1 b : Nat} {g g1 : Nat → Int} {r fs : List RuF} {vs vs' T T' rr : List Int} {s s1 : Nat} {res res1 a x w : Int} {S : RuS} {nn : Nat → Nat} {W W1 W2 V : List Int} {R : Int → MF → Prop}
theorem wat_sm (h : Wat X f c W) : sm bx W ≤ sm bx (Cw X f) := by
  have e1 : Cw X f = (Cw X f).take c ++ (Cw X f).drop c := (List.take_append_drop _ _).symm
  have e2 : (Cw X f).drop c = W ++ ((Cw X f).drop c).drop W.length := by
    have e3 : W = ((Cw X f).drop c).take W.length := by
      refine gx_ext (by rw [List.length_take, List.length_drop]; have := h.1; omega) (fun j hj => ?_)
      rw [gx_take _ _ _ hj, gx_drop, h.2 j hj]
    rw [← List.take_append_drop W.length ((Cw X f).drop c), ← e3, List.drop_left]
  rw [e1, sm_app, e2, sm_app]
  omega
/-- a condition -/
theorem l_cond {We : List Int} {els : Int} (hK : LKd F0 X nn) (hF : 0 < dp → FRM F0 X dp) (hf : f < 3) (hfn : fn < 1600) (h1 : F0 221 v = 10) (hv : v < 1600) (ha : q < 256) (hX : Xp F0 (ks X f) lo v (F0 224 v) We) (h25 : F0 225 v = (b : Int)) (hb : b < 1600) (hob : ir1 (F0 224 b)) (h26 : (F0 226 v = -1 ∧ els = -1) ∨ (0 ≤ F0 226 v ∧ F0 226 v < 1600 ∧ els = F0 224 (F0 226 v).toNat ∧ ir1 els)) (hnx : F0 227 v = -1 ∨ (0 ≤ F0 227 v ∧ F0 227 v < 1600))
    (hW : Wat X f c (mk 6 q 0 :: (We ++ mk 11 q e :: V))) (hd : r.length + 1 + dp = 4) (hS : St F) (hfr : frR F0 F) (hR : RunM F ((f, c, g) :: r, vs, s, res) (rQ T fn (tcd 0 v :: rr))) (hrr : rOK rr) (hvs : vs.length ≤ 200 * r.length) (hT : T.length ≤ 700 * r.length) (hrl : rr.length + (Cw X f).length ≤ 645 + c) (hKL : KL F0 X f c g r vs s res T R)
    (K : ∀ (F' : MF) (s' : Nat) (res' x : Int) (m : Nat), St F' → frR F0 F' → RunM F' ((f, (if x = 0 then e else c + We.length + 2), g) :: r, vs, s', res') (rQ T fn ((if x = 0 then tsk 0 els else tsk 0 (F0 224 b)) ++ (tsk 0 (F0 227 v) ++ rr))) → rsn X m ((f, c, g) :: r, vs, s, res) = some ((f, (if x = 0 then e else c + We.length + 2), g) :: r, vs, s', res') → m + 650 * s ≤ We.length + 2 + 650 * s' → s ≤ s' → L_290_83 F' R m_no) : L_290_83 F R m_no := by
  have hXX := hK.1.hX
  obtain ⟨u, l1, u1, fi, x1, x2, x3, ⟨dd, x4⟩, x5, x6⟩ := hX
  have ru := Rp.rng _ _ _ _ _ _ x4
  obtain ⟨w1, w2, w3, w4⟩ := wat_hd hW
  obtain ⟨w5, w6⟩ := w4.app
  obtain ⟨w7, w8, w9, w10⟩ := wat_hd w6
  have hs200 : s ≤ 200 := hR.top.2.2.2.2.2
  have hlen := (Fw_len hXX hf).2.2.1
  have hRX := RXe_of (dp := dp) hK hF hf _ _ _ _ _ _ x4 (by omega)
  have hsm : sm bx We ≤ 192 := by
    have h3 := Cw_bx (f := f) hXX hf
    have := wat_sm w5
    omega
  by_cases e200 : s = 200
  · subst e200
    exact step_end (a := (q : Int)) (W := We ++ mk 11 q e :: V) (by rw [Int.toNat_natCast]; exact hW) (by omega) hS hfr hR hv hrr hvs (by omega) hfn hKL
  rw [rQ_cons] at hR
  have ql := rQ_len (T := T) (fn := fn) (rr := rr)
  refine rpop (how := 0) hS hR (by omega) (by decide) (by omega) (fun G hSG hG hRG => d289_0 hSG ?_)
  have hfG := hfr.tr hG
  refine CaV.on (s_283 (F0 := F0) (how := 7) (kk := 10) hSG hfG hRG (by omega) hv h1 rfl (fun _ => x1) hnx (Or.inr ⟨by omega, by omega⟩) (by omega) (fun _ _ => rfl)) ?_
  rintro F1 hS1 ⟨q1, q2⟩
  rw [if_neg (by decide), if_neg (by decide), if_neg (by decide), tsk_n, ← List.append_assoc, rQ_tsk] at q1
  have hf1 := hfG.tr q2
  have lt := tsk_len (h := 0) (un := F0 227 v)
  have ql2 : (rQ T fn (tsk 0 (F0 227 v) ++ rr)).length ≤ T.length + 2 + rr.length := by rw [rQ_len, List.length_append]; omega
  have hst1 : rsn X 1 ((f, c, g) :: r, vs, s, res) = some ((f, c + 1, g) :: r, vs, s + 1, res) := rsn_one (by rw [rst_at w1, rsw6, if_neg (by omega), rgo_ok (by omega)])
  refine hRX (c + 1) F1 g r vs (s + 1) res (rQ T fn (tsk 0 (F0 227 v) ++ rr) ++ [tcd 7 v]) R w5 hd hS1 hf1 (q1.pl (q := c + 1) (res' := res)) (by omega) (by rw [List.length_append, List.length_singleton]; have := w5.1; omega) ?_
  intro F2 s2 res2 x m2 hS2 hfr2 hR2 hm2 hc2 hs2
  have hmm := rsn_app 1 _ hst1 hm2
  refine rpop (how := 7) hS2 hR2 (by omega) (by decide) (by omega) (fun G2 hSG2 hG2 hRG2 => (d289s hSG2).2.2.2.1 7 rfl ?_)
  refine CaL.on (s_280 hSG2 hRG2 (by omega)) ?_
  rintro x3 F3 hS3 ⟨rfl, q3, q4⟩
  have hf3 := (hfr2.tr hG2).tr q4
  have fin : ∀ (F4 : MF), St F4 → frR F3 F4 → RunM F4 ((f, c + 1 + We.length, g) :: r, vs, s2, res2) (rQ T fn (tsk 0 (F0 227 v) ++ rr) ++ (if x3 = 0 then tsk 0 els else tsk 0 (F0 224 b))) → L_290_83 F4 R m_no := by
    intro F4 hS4 hf4 hR4
    have hR5 : RunM F4 ((f, (if x3 = 0 then e else c + We.length + 2), g) :: r, vs, s2, res2) (rQ T fn ((if x3 = 0 then tsk 0 els else tsk 0 (F0 224 b)) ++ (tsk 0 (F0 227 v) ++ rr))) := by
      by_cases c0 : x3 = 0
      · rw [if_pos c0, rQ_tsk] at hR4
        rw [if_pos c0, if_pos c0]
        exact hR4.pl
      · rw [if_neg c0, rQ_tsk] at hR4
        rw [if_neg c0, if_neg c0]
        exact hR4.pl
    refine K F4 s2 res2 x3 (1 + m2 + 1) hS4 (hf3.tr hf4) hR5 (rsn_app (1 + m2) _ hmm (rsn_one ?_)) (by omega) (by omega)
    rw [rst_at w7, rsw11 ha, rgo_ok (by omega), show c + 1 + We.length + 1 = c + We.length + 2 by omega]
  rw [cmp0, Int.toNat_natCast, hf3.nd 226 (by decide) (by decide), hf3.nd 225 (by decide) (by decide), hf3.nd 224 (by decide) (by decide), h25]
  refine ⟨fun c0 => ⟨by omega, fun c1 => ?_, fun c1 => ?_⟩, fun c0 => ⟨by omega, fun c1 => by omega, fun _ => ⟨by omega, ?_⟩⟩⟩
  · refine CaV.on (s_278 (how := 0) (un := -1) hS3 q3 (Or.inl rfl) (by decide) (by omega)) ?_
    rintro F4 hS4 ⟨q5, q6⟩
    refine fin F4 hS4 q6 ?_
    rw [if_pos c0]
    rcases h26 with ⟨-, h⟩ | ⟨h, -⟩
    · rw [h]; exact q5
    · omega
  · rcases h26 with ⟨h, -⟩ | ⟨h0, h2, h3, h4⟩
    · exact absurd h c1
    · refine ⟨by omega, CaV.on (s_278 (how := 0) hS3 q3 (by rw [← h3]; exact h4) (by decide) (by omega)) ?_⟩
      rintro F4 hS4 ⟨q5, q6⟩
      refine fin F4 hS4 q6 ?_
      rw [if_pos c0, h3]
      exact q5
  · rw [Int.toNat_natCast]
    refine CaV.on (s_278 (how := 0) hS3 q3 hob (by decide) (by omega)) ?_
    rintro F4 hS4 ⟨q5, q6⟩
    refine fin F4 hS4 q6 ?_
    rw [if_neg c0]
    exact q5
theorem RSs_of (hK : LKd F0 X nn) (hF : 0 < dp → FRM F0 X dp) (hf : f < 3) (hfn : fn < 1600) : ∀ (d lo hi c v : Nat) (W : List Int), Sm F0 (ks X f) d lo hi c v W → hi ≤ 1600 → (F0 227 v = -1 ∨ (0 ≤ F0 227 v ∧ F0 227 v < 1600)) → RSt F0 X f dp fn c [tcd 0 v] (tsk 0 (F0 227 v)) W ∧ RDs X f c W := by
  have hXX := hK.1.hX
  have hlen := (Fw_len hXX hf).2.2.1
  intro d
  induction d with
  | zero => intro lo hi c v W h; exact absurd h (fun h => h)
  | succ d ih =>
    intro lo hi c v W h hh hnx
    have hr := Sm.rng _ _ _ _ _ _ h
    have stp : ∀ (V : List Int) (a : Nat), RDs X f c (mk 6 a 0 :: V) := fun V a hW r vs hl _ => by
      obtain ⟨w1, -, w3, -⟩ := wat_hd hW
      exact RDE.st w1 (by omega) hl
    rcases h with ⟨o, kd, a, p, e, We, h1, h2, h3, h4, h5, h6, h7, rfl, hp⟩ | ⟨a, h1, h2, h3, h4, rfl⟩ | ⟨a, W', h1, h2, rfl, h222⟩ | ⟨h1, h2, a, b, m, We, W1, h3, ⟨h4, ha⟩, h5, h6, h7, h8, h9, h10, h11⟩
    · exact ⟨RSt_simple hK hF hf hfn h1 h2 (by omega) h6 hp h7 hnx, stp _ a⟩
    · refine ⟨RSt_broken hK hf hfn h1 (by omega) hnx, fun hW r vs hl hDE => ?_⟩
      obtain ⟨w1, -, w3, -⟩ := wat_hd hW
      exact RDE.no w1 (by decide) hl hDE
    · have hB := RBs_of (fn := fn) hK hf (Sm.rng d) (fun a bb c v W k h5 h6 => ih a bb c v W k h5 h6) h1 hh
      exact ⟨RSt_blk hK hf hfn h1.1 (by omega) hB.1 (Bk_one (Sm.rng d) h1 hh) hnx, stp _ a⟩
    · have g9 := h9.rng (Sm.rng d)
      rcases h11 with ⟨k1, k2, rfl⟩ | ⟨b2, p2, W2, ⟨k1, kp2⟩, k2, k3, k4, k5, rfl⟩
      · refine ⟨fun F g r vs s res T rr R hW hd hS hfr hR hrr hvs hT hrl hDE hKN hKL => ?_, stp _ a⟩
        have hB := RBs_of (fn := fn) hK hf (Sm.rng d) (fun a bb c v W k h5 h6 => ih a bb c v W k h5 h6) h9 (by omega)
        have lW : (mk 6 a 0 :: (We ++ mk 11 a (c + We.length + 2 + W1.length) :: W1)).length = We.length + 2 + W1.length := by rw [List.length_cons, List.length_append, List.length_cons]; omega
        rw [lW] at hDE hKN
        obtain ⟨w1, w2, w3, w4⟩ := wat_hd hW
        obtain ⟨w5, w6⟩ := w4.app
        obtain ⟨w7, w8, w9, w10⟩ := wat_hd w6
        rw [show c + 1 + We.length + 1 = c + We.length + 2 by omega] at w10
        have lt := tsk_len (h := 0) (un := F0 227 v)
        refine l_cond (R := R) (els := -1) (V := W1) hK hF hf hfn h1 (by omega) ha h5 h6 (by omega) (Bk_one (Sm.rng d) h9 (by omega)) (Or.inl ⟨k1, rfl⟩) hnx hW hd hS hfr hR hrr hvs hT hrl hKL ?_
        intro F1 s1' res1 x m1 hS1 hfr1 hR1 hm1 hc1 hs1
        by_cases c0 : x = 0
        · rw [if_pos c0, if_pos c0, tsk_no, List.nil_append] at hR1
          rw [if_pos c0] at hm1
          rw [show c + We.length + 2 + W1.length = c + (We.length + 2 + W1.length) by omega] at hR1 hm1
          exact hKN F1 g s1' res1 m1 hS1 hfr1 hR1 hm1 (by omega) hs1
        · rw [if_neg c0, if_neg c0] at hR1
          rw [if_neg c0] at hm1
          have hm1' := hm1
          rw [show c + We.length + 2 = c + (We.length + 2) by omega] at hm1'
          refine hB.1 F1 g r vs s1' res1 T (tsk 0 (F0 227 v) ++ rr) R w10 hd hS1 hfr1 hR1 (rOK_tk hrr hnx) hvs hT (by rw [List.length_append]; omega) (by rw [show c + We.length + 2 + W1.length = c + (We.length + 2 + W1.length) by omega]; exact hDE) ?_ (hKL.ahead hm1 (by omega) hs1)
          rw [List.nil_append]
          have := hKN.ahead hm1' hc1 hs1
          rw [show c + (We.length + 2) = c + We.length + 2 by omega] at this
          exact this
      · refine ⟨fun F g r vs s res T rr R hW hd hS hfr hR hrr hvs hT hrl hDE hKN hKL => ?_, stp _ a⟩
        have g4 := k4.rng (Sm.rng d)
        have hB := RBs_of (fn := fn) hK hf (Sm.rng d) (fun a bb c v W k h5 h6 => ih a bb c v W k h5 h6) h9 (by omega)
        have hB2 := RBs_of (fn := fn) hK hf (Sm.rng d) (fun a bb c v W k h5 h6 => ih a bb c v W k h5 h6) k4 hh
        have lW : (mk 6 a 0 :: (We ++ mk 11 a (c + We.length + 3 + W1.length) :: (W1 ++ mk 12 p2 (c + We.length + 3 + W1.length + W2.length) :: W2))).length = We.length + 3 + W1.length + W2.length := by rw [List.length_cons, List.length_append, List.length_cons, List.length_append, List.length_cons]; omega
        rw [lW] at hDE hKN
        obtain ⟨w1, w2, w3, w4⟩ := wat_hd hW
        obtain ⟨w5, w6⟩ := w4.app
        obtain ⟨w7, w8, w9, w10⟩ := wat_hd w6
        rw [show c + 1 + We.length + 1 = c + We.length + 2 by omega] at w10
        obtain ⟨w11, w12⟩ := w10.app
        obtain ⟨w13, w14, w15, w16⟩ := wat_hd w12
        rw [show c + We.length + 2 + W1.length + 1 = c + We.length + 3 + W1.length by omega] at w16
        have lt := tsk_len (h := 0) (un := F0 227 v)
        have e226 : (F0 226 v).toNat = b2 := by rw [k1, Int.toNat_natCast]
        have DE2 : RDE X f r vs (c + We.length + 3 + W1.length + W2.length) := by rw [show c + We.length + 3 + W1.length + W2.length = c + (We.length + 3 + W1.length + W2.length) by omega]; exact hDE
        have hl8 : vs.length < 800 := by omega
        refine l_cond (R := R) (els := F0 224 b2) hK hF hf hfn h1 (by omega) ha h5 h6 (by omega) (Bk_one (Sm.rng d) h9 (by omega)) (Or.inr ⟨by omega, by omega, by rw [e226], Bk_one (Sm.rng d) k4 hh⟩) hnx hW hd hS hfr hR hrr hvs hT hrl hKL ?_
        intro F1 s1' res1 x m1 hS1 hfr1 hR1 hm1 hc1 hs1
        by_cases c0 : x = 0
        · rw [if_pos c0, if_pos c0] at hR1
          rw [if_pos c0] at hm1
          refine hB2.1 F1 g r vs s1' res1 T (tsk 0 (F0 227 v) ++ rr) R w16 hd hS1 hfr1 hR1 (rOK_tk hrr hnx) hvs hT (by rw [List.length_append]; omega) DE2 ?_ (hKL.ahead hm1 (by omega) hs1)
          rw [List.nil_append]
          intro F' g' s' res' m hS' hfr' hR' hm2 hc2 hs2
          rw [show c + We.length + 3 + W1.length + W2.length = c + (We.length + 3 + W1.length + W2.length) by omega] at hR' hm2
          exact hKN F' g' s' res' (m1 + m) hS' hfr' hR' (rsn_app m1 _ hm1 hm2) (by omega) (by omega)
        · rw [if_neg c0, if_neg c0] at hR1
          rw [if_neg c0] at hm1
          refine hB.1 F1 g r vs s1' res1 T (tsk 0 (F0 227 v) ++ rr) R w11 hd hS1 hfr1 hR1 (rOK_tk hrr hnx) hvs hT (by rw [List.length_append]; omega) (RDE.jp w13 kp2 (by omega) hl8 DE2) ?_ (hKL.ahead hm1 (by omega) hs1)
          rw [List.nil_append]
          intro F' g' s' res' m hS' hfr' hR' hm2 hc2 hs2
          have hm3 := rsn_app m1 _ hm1 hm2
          refine hKN F' g' s' res' (m1 + m + 1) hS' hfr' hR'.pl (rsn_app (m1 + m) _ hm3 (rsn_one ?_)) (by omega) (by omega)
          rw [rst_at w13, rsw12 kp2, rgo_ok (by omega), show c + We.length + 3 + W1.length + W2.length = c + (We.length + 3 + W1.length + W2.length) by omega]
/-- functions, from those that may not call on -/
theorem FRM_of (hK : LKd F0 X nn) : ∀ dp, 0 < dp → FRM F0 X dp := by
  have hXX := hK.1.hX
  intro dp
  induction dp with
  | zero => intro h; exact absurd h (Nat.lt_irrefl 0)
  | succ dp ih =>
    intro _ f it cp lo hi F g rr vs s res T R hf hP h2 hW hd hS hfr hR hvs hT K
    have hlen := (Fw_len hXX hf).2.2.1
    obtain ⟨q0, q1, q2, q3, q4⟩ := hP
    rcases q1 with ⟨q1, -⟩ | ⟨-, e1, e2, e3, e4, e5, e6, W1, e7, e8⟩
    · omega
    · have gg := e7.rng Sme.rng
      obtain ⟨d, e7'⟩ := e7.un
      have hB := RBs_of (fn := it.1) hK hf (Sm.rng d) (fun a bb c v W k h5 h6 => RSs_of (dp := dp) (fn := it.1) hK ih hf q0 d a bb c v W k h5 h6) e7' (by omega)
      rw [e8] at hW
      obtain ⟨w1, w2, w3, w4⟩ := wat_hd hW
      obtain ⟨w5, w6, w7, w8⟩ := wat_last w4
      have hDE : RDE X f rr vs (cp + 1 + W1.length) := RDE.dn w6 (by omega) (by omega)
      have hst1 : rsn X 1 ((f, cp, g) :: rr, vs, s, res) = some ((f, cp + 1, g) :: rr, vs, s, res) := rsn_one (by rw [rst_at w1, rswN (by decide), rgo_ok (by omega)])
      have hR0 : RunM F ((f, cp + 1, g) :: rr, vs, s, res) (rQ T it.1 (tsk 0 (F0 224 it.2.2.2.2.1) ++ [])) := by
        rw [← rQ_tsk]
        have e : rQ T it.1 [] = T ++ [tcd 9 it.1] := List.append_nil _
        rw [e]
        exact hR.pl
      have hl1 := hW.1
      rw [List.length_cons, List.length_append, List.length_singleton] at hl1
      refine hB.1 F g rr vs s res T [] R w5 (by omega) hS hfr hR0 (fun x h => absurd h (List.not_mem_nil)) hvs hT (by rw [List.length_nil]; omega) hDE ?_ ?_
      · intro F1 g1 s1 res1 m1 hS1 hfr1 hR1 hm1 hc1 hs1
        have e : rQ T it.1 ([] ++ []) = T ++ [tcd 9 it.1] := List.append_nil _
        rw [e] at hR1
        have t0 : T.length < 4000 := by omega
        refine rpop (how := 9) hS1 hR1 (by omega) (by decide) t0 (fun G hSG hG hRG => (d289s hSG).2.2.2.2 9 rfl ?_)
        refine CaV.on (s_279 hSG hRG (by omega)) ?_
        rintro F2 hS2 ⟨q5, q6⟩
        have top := q5.top
        refine ⟨by rw [top.1]; omega, ?_⟩
        refine K _ s1 0 (1 + m1 + 1) (hS2.fld kd_201 rk_12_87) (((hfr1.tr hG).tr q6).fl (by decide)) (q5.out (res' := 0)) (rsn_app (1 + m1) _ (rsn_app 1 _ hst1 hm1) (rsn_one ?_)) (by omega) hs1
        rw [rst_at w6, rsw5d, rlv_ok (by omega)]
      · intro F1 s1 x1 m1 hS1 hfr1 hR1 hm1 hc1 hs1
        exact K F1 s1 x1 (1 + m1) hS1 hfr1 hR1 (rsn_app 1 _ hst1 hm1) (by omega) hs1
end Me7
