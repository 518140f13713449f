/-! RUNNING, OF THE REFERENCE: statements, blocks -/
def KN (F0 : MF) (X : Nat → List Int) (f c : Nat) (g : Nat → Int) (r : List RuF) (vs : List Int) (s : Nat) (res : Int) (l : Nat) (T : List Int) (R : Int → MF → Prop) : Prop :=
  ∀ (F' : MF) (g' : Nat → Int) (s' : Nat) (res' : Int) (m : Nat), St F' → frR F0 F' → RunM F' ((f, c + l, g') :: r, vs, s', res') T → rsn X m ((f, c, g) :: r, vs, s, res) = some ((f, c + l, g') :: r, vs, s', res') → m + 650 * s ≤ l + 650 * s' → s ≤ s' → L_290_83 F' R m_no
def KL (F0 : MF) (X : Nat → List Int) (f c : Nat) (g : Nat → Int) (r : List RuF) (vs : List Int) (s : Nat) (res : Int) (T : List Int) (R : Int → MF → Prop) : Prop :=
  ∀ (F' : MF) (s' : Nat) (x : Int) (m : Nat), St F' → frR F0 F' → RunM F' (r, x :: vs, s', x) T → rsn X m ((f, c, g) :: r, vs, s, res) = some (r, x :: vs, s', x) → m + c + 650 * s ≤ (Cw X f).length + 1 + 650 * s' → s ≤ s' → L_290_83 F' R m_no
/-- some rows are done: tk what is to be done, tk2 what then waits -/
def RSt (F0 : MF) (X : Nat → List Int) (f dp fn c : Nat) (tk tk2 : List Int) (W : List Int) : Prop := ∀ (F : MF) (g : Nat → Int) (r : List RuF) (vs : List Int) (s : Nat) (res : Int) (T rr : List Int) (R : Int → MF → Prop), Wat X f c W → r.length + 1 + dp = 4 → St F → frR F0 F → RunM F ((f, c, g) :: r, vs, s, res) (rQ T fn (tk ++ rr)) → rOK rr → vs.length ≤ 200 * r.length → T.length ≤ 700 * r.length → rr.length + (Cw X f).length ≤ 645 + c → RDE X f r vs (c + W.length) →
  KN F0 X f c g r vs s res W.length (rQ T fn (tk2 ++ rr)) R → KL F0 X f c g r vs s res T R → L_290_83 F R m_no
section Me5
variable {F F0 G H : MF} {X : Nat → List Int} {f p k v u t c c1 dp d lo hi e o fn q l m1 : Nat} {g g1 : Nat → Int} {r fs : List RuF} {vs vs' T T' rr : List Int} {s s1 : Nat} {res res1 a b x w : Int} {S : RuS} {nn : Nat → Nat} {W W1 W2 : List Int} {R : Int → MF → Prop}
/-- steps ahead -/
theorem KN.ahead (h : KN F0 X f c g r vs s res (l + k) T R) (hm : rsn X m1 ((f, c, g) :: r, vs, s, res) = some ((f, c + l, g1) :: r, vs, s1, res1)) (hc : m1 + 650 * s ≤ l + 650 * s1) (hs : s ≤ s1) : KN F0 X f (c + l) g1 r vs s1 res1 k T R := by
  intro F' g' s' res' m hS hfr hR hm2 hc2 hs2
  rw [Nat.add_assoc] at hR hm2
  exact h F' g' s' res' (m1 + m) hS hfr hR (rsn_app m1 _ hm hm2) (by omega) (by omega)
theorem KL.ahead (h : KL F0 X f c g r vs s res T R) (hm : rsn X m1 ((f, c, g) :: r, vs, s, res) = some ((f, c1, g1) :: r, vs, s1, res1)) (hc : m1 + c + 650 * s ≤ c1 + 650 * s1) (hs : s ≤ s1) : KL F0 X f c1 g1 r vs s1 res1 T R := by
  intro F' s' x m hS hfr hR hm2 hc2 hs2
  exact h F' s' x (m1 + m) hS hfr hR (rsn_app m1 _ hm hm2) (by omega) (by omega)
/-- an expr, and the task behind it: E what is left on the stack -/
theorem s_283 {kk nx one : Int} {how : Nat} (hS : St F) (hfr : frR F0 F) (hR : RunM F ((f, c, g) :: r, vs, s, res) T) (hs : s < 200) (hv : v < 1600) (h1 : F0 221 v = kk) (h2 : F0 227 v = nx) (h3 : kk ≠ 12 → F0 224 v = one) (hnx : nx = -1 ∨ (0 ≤ nx ∧ nx < 1600)) (hon : one = -1 ∨ (0 ≤ one ∧ one < 1600)) (hT : T.length + 4 < 4000)
    (hh : kk ≠ 12 → kk ≠ 3 → how = (if kk = 7 then 5 else if kk = 9 then 6 else if kk = 10 then 7 else 4)) :
    C_283 (v : Int) F (fun F' => RunM F' ((f, c, g) :: r, vs, (if kk = 12 then s else s + 1), res) (T ++ tsk 0 nx ++ (if kk = 12 then [] else if kk = 3 then tsk 0 one else [tcd how v] ++ tsk 1 one)) ∧ frR F F') m_no := by
  have top := hR.top
  have e88 := top.2.2.2.2.1
  refine c_283 hS ?_
  rw [Int.toNat_natCast, hfr.nd 221 (by decide) (by decide), hfr.nd 227 (by decide) (by decide), h1, h2, e88]
  refine ⟨by omega, fun h => by omega, fun _ => ⟨by omega, ?_⟩⟩
  refine CaV.on (s_278 (how := 0) hS hR hnx (by decide) (by omega)) ?_
  rintro F1 hS1 ⟨q1, q2⟩
  have top1 := q1.top
  have l1 := tsk_len (h := 0) (un := nx)
  have lT : (T ++ tsk 0 nx).length ≤ T.length + 1 := by rw [List.length_append]; omega
  have f1 := hfr.tr q2
  have hR2 := q1.st hs
  have hS2 : St (m_up F1 201 88 ((s : Int) + 1)) := hS1.fld kd_201 rk_12_88
  have f2 : frR F (m_up F1 201 88 ((s : Int) + 1)) := q2.fl (by decide)
  rw [top1.2.2.2.2.1]
  refine ⟨fun h => ?_, fun h => ⟨by omega, ?_⟩⟩
  · rw [if_pos h, if_pos h, List.append_nil]
    exact ⟨q1, q2⟩
  · rw [if_neg h, if_neg h]
    have h3 := h3 h
    have two : ∀ how : Nat, how < 10 → C_278 (how : Int) (v : Int) (m_up F1 201 88 ((s : Int) + 1)) (fun F45 => (0 ≤ (v : Int) ∧ (v : Int) < 1600) ∧ C_278 1 (F45 224 v) F45 (fun F' => RunM F' ((f, c, g) :: r, vs, s + 1, res) (T ++ tsk 0 nx ++ ([tcd how v] ++ tsk 1 one)) ∧ frR F F') m_no) m_no := by
      intro how hh
      refine CaV.on (s_278 (how := how) (un := (v : Int)) hS2 hR2 (Or.inr ⟨by omega, by omega⟩) hh (by omega)) ?_
      rintro F3 hS3 ⟨q3, q4⟩
      rw [tsk_n] at q3
      have f3 := f2.tr q4
      have f03 := hfr.tr f3
      rw [f03.nd 224 (by decide) (by decide), h3]
      refine ⟨by omega, CaV.on (s_278 (how := 1) hS3 q3 hon (by decide) (by rw [List.length_append, List.length_singleton]; omega)) ?_⟩
      rintro F4 hS4 ⟨q5, q6⟩
      rw [List.append_assoc] at q5
      exact ⟨q5, f3.tr q6⟩
    refine ⟨fun h3' => ⟨by omega, ?_⟩, fun h3' => ?_⟩
    · rw [if_pos h3', f1.nd 224 (by decide) (by decide), h3]
      refine CaV.on (s_278 (how := 0) hS2 hR2 hon (by decide) (by omega)) ?_
      rintro F3 hS3 ⟨q3, q4⟩
      exact ⟨q3, f2.tr q4⟩
    · rw [if_neg h3']
      have hh' := hh h h3'
      refine ⟨fun h7 => ?_, fun h7 => ⟨fun h9 => ?_, fun h9 => ⟨fun h10 => ?_, fun h10 => ?_⟩⟩⟩
      · rw [if_pos h7] at hh'
        subst hh'
        exact two 5 (by decide)
      · rw [if_neg h7, if_pos h9] at hh'
        subst hh'
        exact two 6 (by decide)
      · rw [if_neg h7, if_neg h9, if_pos h10] at hh'
        subst hh'
        exact two 7 (by decide)
      · rw [if_neg h7, if_neg h9, if_neg h10] at hh'
        subst hh'
        exact two 4 (by decide)
/-- a STEP where all steps are taken -/
theorem step_end (hW : Wat X f c (mk 6 a.toNat 0 :: W)) (hr : r.length < 4) (hS : St F) (hfr : frR F0 F) (hR : RunM F ((f, c, g) :: r, vs, 200, res) (rQ T fn (tcd 0 v :: rr))) (hv : v < 1600) (hrr : rOK rr) (hvs : vs.length ≤ 200 * r.length) (hT : T.length + 2 + rr.length ≤ 4000) (hfn : fn < 1600) (hK : KL F0 X f c g r vs 200 res T R) : L_290_83 F R m_no := by
  obtain ⟨w1, -, w3, -⟩ := wat_hd hW
  refine runw (F0 := F0) hr (by omega) (tcd 0 v :: rr) F (fun x hx => ?_) (by rw [List.length_cons]; omega) hfn hS hfr hR ?_
  · rcases List.mem_cons.mp hx with h | h
    · exact ⟨v, hv, h⟩
    · exact hrr x h
  · intro F' hS' hfr' hR'
    refine hK F' 200 0 1 hS' hfr' hR' (rsn_one ?_) (by omega) (Nat.le_refl _)
    rw [rst_at w1, rsw6, if_pos (by decide), rlv_ok (by omega)]
/-- statements without blocks -/
theorem RSt_simple {kd : Nat} {We : List Int} (hK : LKd F0 X nn) (hF : 0 < dp → FRM F0 X dp) (hf : f < 3) (hfn : fn < 1600) (ho : (kd = 5 ∧ o = 7) ∨ (kd = 6 ∧ o = 8) ∨ (kd = 7 ∧ o = 9) ∨ (kd = 9 ∧ o = 10)) (h1 : F0 221 v = (kd : Int)) (hv : v < 1600) (h2 : F0 222 v = (p : Int)) (hp : p < 256) (hX : Xp F0 (ks X f) lo v (F0 224 v) We) (hnx : F0 227 v = -1 ∨ (0 ≤ F0 227 v ∧ F0 227 v < 1600)) :
    RSt F0 X f dp fn c [tcd 0 v] (tsk 0 (F0 227 v)) (mk 6 q 0 :: (We ++ [mk o p e])) := by
  have hXX := hK.1.hX
  intro F g r vs s res T rr R hW hd hS hfr hR hrr hvs hT hrl hDE hKN hKL
  obtain ⟨u, l1, u1, fi, x1, x2, x3, ⟨dd, x4⟩, x5, x6⟩ := hX
  have ru := Rp.rng _ _ _ _ _ _ x4
  obtain ⟨w1, w2, w3, w4⟩ := wat_hd hW
  obtain ⟨w5, w6, w7, w8⟩ := wat_last w4
  have hs200 : s ≤ 200 := hR.top.2.2.2.2.2
  have hlen := (Fw_len hXX hf).2.2.1
  have hRX := RXe_of (dp := dp) hK hF hf _ _ _ _ _ _ x4 (by omega)
  have hsm : sm bx We ≤ 192 := by
    have h3 := Cw_bx (f := f) hXX hf
    have : sm bx We ≤ sm bx (Cw X f) := by
      have e1 : Cw X f = (Cw X f).take (c + 1) ++ (Cw X f).drop (c + 1) := (List.take_append_drop _ _).symm
      have e2 : (Cw X f).drop (c + 1) = We ++ ((Cw X f).drop (c + 1)).drop We.length := by
        have e3 : We = ((Cw X f).drop (c + 1)).take We.length := by
          refine gx_ext (by rw [List.length_take, List.length_drop]; have := w5.1; omega) (fun j hj => ?_)
          rw [gx_take _ _ _ hj, gx_drop, w5.2 j hj]
        rw [← List.take_append_drop We.length ((Cw X f).drop (c + 1)), ← e3, List.drop_left]
      rw [e1, sm_app, e2, sm_app]
      omega
    omega
  rw [show [tcd 0 v] ++ rr = tcd 0 v :: rr from rfl] at hR
  have lW : (mk 6 q 0 :: (We ++ [mk o p e])).length = 1 + (We.length + 1) := by rw [List.length_cons, List.length_append, List.length_singleton]; omega
  rw [lW] at hKN
  by_cases e200 : s = 200
  · subst e200
    exact step_end (a := (q : Int)) (W := We ++ [mk o p e]) (by rw [Int.toNat_natCast]; exact hW) (by omega) hS hfr hR hv hrr hvs (by omega) hfn hKL
  have hR0 := hR
  rw [rQ_cons] at hR
  have ql := rQ_len (T := T) (fn := fn) (rr := rr)
  refine rpop (how := 0) hS hR (by omega) (by decide) (by omega) (fun G hSG hG hRG => d289_0 hSG ?_)
  have hfG := hfr.tr hG
  have kd12 : ¬ (kd : Int) = 12 := by omega
  have kd3 : ¬ (kd : Int) = 3 := by omega
  obtain ⟨how, hhow⟩ : ∃ how : Nat, how = (if (kd : Int) = 7 then 5 else if (kd : Int) = 9 then 6 else if (kd : Int) = 10 then 7 else 4) := ⟨_, rfl⟩
  refine CaV.on (s_283 (F0 := F0) (how := how) hSG hfG hRG (by omega) hv h1 rfl (fun _ => x1) hnx (Or.inr ⟨by omega, by omega⟩) (by omega) (fun _ _ => hhow)) ?_
  rintro F1 hS1 ⟨q1, q2⟩
  rw [if_neg kd12, if_neg kd12, if_neg kd3, tsk_n, ← List.append_assoc, rQ_tsk] at q1
  have hf1 := hfG.tr q2
  have lt := tsk_len (h := 0) (un := F0 227 v)
  have ql2 : (rQ T fn (tsk 0 (F0 227 v) ++ rr)).length ≤ T.length + 2 + rr.length := by rw [rQ_len, List.length_append]; omega
  have hst1 : rsn X 1 ((f, c, g) :: r, vs, s, res) = some ((f, c + 1, g) :: r, vs, s + 1, res) := rsn_one (by rw [rst_at w1, rsw6, if_neg (by omega), rgo_ok (by omega)])
  refine hRX (c + 1) F1 g r vs (s + 1) res (rQ T fn (tsk 0 (F0 227 v) ++ rr) ++ [tcd how v]) R w5 hd hS1 hf1 (q1.pl (q := c + 1) (res' := res)) (by omega) (by rw [List.length_append, List.length_singleton]; have := w5.1; omega) ?_
  intro F2 s2 res2 x m2 hS2 hfr2 hR2 hm2 hc2 hs2
  have hmm := rsn_app 1 _ hst1 hm2
  have h10 : how < 10 := by
    rw [hhow]
    split
    · decide
    · split
      · decide
      · split <;> decide
  refine rpop (how := how) hS2 hR2 (by omega) h10 (by omega) (fun G2 hSG2 hG2 hRG2 => ?_)
  have hf2 := hfr2.tr hG2
  have s2' : s2 ≤ 200 := hR2.top.2.2.2.2.2
  -- behind the task
  have fin : ∀ (F3 : MF) (g3 : Nat → Int), St F3 → frR F0 F3 → RunM F3 ((f, c + (1 + (We.length + 1)), g3) :: r, vs, s2, res2) (rQ T fn (tsk 0 (F0 227 v) ++ rr)) → rsw X (mk o p e) f (c + 1 + We.length) g r (x :: vs) s2 res2 = rgo f (c + 1 + We.length + 1) g3 r vs s2 res2 → L_290_83 F3 R m_no := by
    intro F3 g3 hS3 hf3 hR3 hrs
    refine hKN F3 g3 s2 res2 (1 + m2 + 1) hS3 hf3 hR3 (rsn_app (1 + m2) _ hmm (rsn_one ?_)) (by omega) (by omega)
    rw [rst_at w6, hrs, rgo_ok (by omega), show c + 1 + We.length + 1 = c + (1 + (We.length + 1)) by omega]
  rcases ho with ⟨rfl, rfl⟩ | ⟨rfl, rfl⟩ | ⟨rfl, rfl⟩ | ⟨rfl, rfl⟩
  · -- LET
    have hh : how = 4 := hhow
    subst hh
    refine (d289s hSG2).1 4 rfl ?_
    refine CaL.on (s_280 hSG2 hRG2 (by omega)) ?_
    rintro x3 F3 hS3 ⟨rfl, q3, q4⟩
    have hf3 := hf2.tr q4
    have hwc := Cw_wc hXX hf w8
    rw [w7] at hwc
    have k0 := mk7 hp (Or.inl rfl) hwc
    have hpl : p < (toks X f).length := kn_tok (by rw [k0]; decide)
    have lk := toks_len hXX hf
    have hid : 200 * f + p < 600 := by omega
    have q5 := q_282 q3 (by omega) hv (by rw [hf3.nd 222 (by decide) (by decide)]; exact h2) (by omega)
    rw [q5.1, Int.toNat_natCast, hf3.nd 253 (by decide) (by decide), hK.2.1 _ hid]
    refine ⟨q5.2, by omega, fun cc => fin F3 g hS3 hf3 q3.pl (by rw [rsw78 (Or.inl rfl) hp, if_pos cc]), fun cc => ?_⟩
    obtain ⟨y, y1, y2⟩ := (bnd_loc hXX hf w8 w7 (Or.inr (Or.inl rfl)) hp).resolve_left cc
    have q6 := q_281 q3 (by omega) (p := 200 * f + y) (by omega)
    rw [y1, q6.1, Int.toNat_natCast, show 600 * r.length + (200 * f + y) = 600 * r.length + 200 * f + y by omega]
    refine ⟨q6.2, by omega, ?_⟩
    refine fin _ _ (hS3.arr kd_260 (by decide)) (hf3.up (by decide)) (q3.var (a := x3) y2).pl ?_
    rw [rsw78 (Or.inl rfl) hp, if_neg cc, y1, Int.toNat_natCast, show (200 * f + y) % 200 = y by omega]
  · -- SET
    have hh : how = 4 := hhow
    subst hh
    refine (d289s hSG2).1 4 rfl ?_
    refine CaL.on (s_280 hSG2 hRG2 (by omega)) ?_
    rintro x3 F3 hS3 ⟨rfl, q3, q4⟩
    have hf3 := hf2.tr q4
    have hwc := Cw_wc hXX hf w8
    rw [w7] at hwc
    have k0 := mk7 hp (Or.inr (Or.inl rfl)) hwc
    have hpl : p < (toks X f).length := kn_tok (by rw [k0]; decide)
    have lk := toks_len hXX hf
    have hid : 200 * f + p < 600 := by omega
    have q5 := q_282 q3 (by omega) hv (by rw [hf3.nd 222 (by decide) (by decide)]; exact h2) (by omega)
    rw [q5.1, Int.toNat_natCast, hf3.nd 253 (by decide) (by decide), hK.2.1 _ hid]
    refine ⟨q5.2, by omega, fun cc => fin F3 g hS3 hf3 q3.pl (by rw [rsw78 (Or.inr rfl) hp, if_pos cc]), fun cc => ?_⟩
    obtain ⟨y, y1, y2⟩ := (bnd_loc hXX hf w8 w7 (Or.inr (Or.inr rfl)) hp).resolve_left cc
    have q6 := q_281 q3 (by omega) (p := 200 * f + y) (by omega)
    rw [y1, q6.1, Int.toNat_natCast, show 600 * r.length + (200 * f + y) = 600 * r.length + 200 * f + y by omega]
    refine ⟨q6.2, by omega, ?_⟩
    refine fin _ _ (hS3.arr kd_260 (by decide)) (hf3.up (by decide)) (q3.var (a := x3) y2).pl ?_
    rw [rsw78 (Or.inr rfl) hp, if_neg cc, y1, Int.toNat_natCast, show (200 * f + y) % 200 = y by omega]
  · -- a call alone
    have hh : how = 5 := hhow
    subst hh
    refine (d289s hSG2).2.1 5 rfl ?_
    refine CaL.on (s_280 hSG2 hRG2 (by omega)) ?_
    rintro x3 F3 hS3 ⟨rfl, q3, q4⟩
    exact fin F3 g hS3 (hf2.tr q4) q3.pl rsw9
  · -- RETURN
    have hh : how = 6 := hhow
    subst hh
    refine (d289s hSG2).2.2.1 6 rfl ?_
    have lr : (tsk 0 (F0 227 v) ++ rr).length ≤ rr.length + 1 := by rw [List.length_append]; omega
    refine r148 (F0 := F0) (by omega) _ G2 (rOK_tk hrr hnx) (by omega) hfn hSG2 hf2 hRG2 ?_
    intro F3 hS3 hf3 hR3
    refine hKL F3 s2 x (1 + m2 + 1) hS3 hf3 (hR3 x) (rsn_app (1 + m2) _ hmm (rsn_one ?_)) (by have := w5.1; omega) (by omega)
    rw [rst_at w6, rsw10, rlv_ok (by omega)]
end Me5
