/-! RUNNING, OF THE REFERENCE: blocks, IF; all statements -/
section Me6
variable {F F0 G H : MF} {X : Nat → List Int} {f p k v u t c c1 dp d lo hi e o fn q l m1 b : Nat} {g g1 : Nat → Int} {r fs : List RuF} {vs vs' T T' rr : List Int} {s s1 : Nat} {res res1 a x w : Int} {S : RuS} {nn : Nat → Nat} {W W1 W2 : List Int} {R : Int → MF → Prop}
theorem RSt_broken (hK : LKd F0 X nn) (hf : f < 3) (hfn : fn < 1600) (h1 : F0 221 v = 12) (hv : v < 1600) (hnx : F0 227 v = -1 ∨ (0 ≤ F0 227 v ∧ F0 227 v < 1600)) : RSt F0 X f dp fn c [tcd 0 v] (tsk 0 (F0 227 v)) [mk 13 q 0] := by
  have hXX := hK.1.hX
  have hlen := (Fw_len hXX hf).2.2.1
  intro F g r vs s res T rr R hW hd hS hfr hR hrr hvs hT hrl hDE hKN hKL
  obtain ⟨w1, w2, w3, w4⟩ := wat_hd hW
  have hs200 : s ≤ 200 := hR.top.2.2.2.2.2
  rw [show [tcd 0 v] ++ rr = tcd 0 v :: rr from rfl] at hR
  rw [List.length_singleton] at hKN hDE
  have ql := rQ_len (T := T) (fn := fn) (rr := rr)
  have hst : ∀ s, rsn X 1 ((f, c, g) :: r, vs, s, res) = some ((f, c + 1, g) :: r, vs, s, res) := fun s => rsn_one (by rw [rst_at w1, rswN (by decide), rgo_ok (by omega)])
  by_cases e200 : s = 200
  · subst e200
    obtain ⟨m, m1, m2⟩ := hDE g res
    refine runw (F0 := F0) (by omega) (by omega) (tcd 0 v :: rr) F (fun x hx => ?_) (by rw [List.length_cons]; omega) hfn hS hfr hR ?_
    · rcases List.mem_cons.mp hx with h | h
      · exact ⟨v, hv, h⟩
      · exact hrr x h
    · intro F' hS' hfr' hR'
      exact hKL F' 200 0 (1 + m) hS' hfr' hR' (rsn_app 1 _ (hst 200) m1) (by omega) (Nat.le_refl _)
  · rw [rQ_cons] at hR
    refine rpop (how := 0) hS hR (by omega) (by decide) (by omega) (fun G hSG hG hRG => d289_0 hSG ?_)
    have hfG := hfr.tr hG
    refine CaV.on (s_283 (F0 := F0) (how := 0) (one := -1) (kk := 12) hSG hfG hRG (by omega) hv h1 rfl (fun h => absurd rfl h) hnx (Or.inl rfl) (by omega) (fun h => absurd rfl h)) ?_
    rintro F1 hS1 ⟨q1, q2⟩
    rw [if_pos rfl, if_pos rfl, List.append_nil, rQ_tsk] at q1
    exact hKN F1 g s res 1 hS1 (hfG.tr q2) q1.pl (hst s) (by omega) (Nat.le_refl _)
/-- a block, what is in it -/
def RBs (F0 : MF) (X : Nat → List Int) (f dp fn c b : Nat) (W : List Int) : Prop := RSt F0 X f dp fn c (tsk 0 (F0 224 b)) [] W
def RDs (X : Nat → List Int) (f c : Nat) (W : List Int) : Prop := Wat X f c W → ∀ (r : List RuF) (vs : List Int), vs.length < 800 → RDE X f r vs (c + W.length) → RDE X f r vs c
theorem RSt_blk {W' : List Int} (hK : LKd F0 X nn) (hf : f < 3) (hfn : fn < 1600) (h1 : F0 221 v = 3) (hv : v < 1600) (hB : RBs F0 X f dp fn (c + 1) v W') (hon : F0 224 v = -1 ∨ (0 ≤ F0 224 v ∧ F0 224 v < 1600)) (hnx : F0 227 v = -1 ∨ (0 ≤ F0 227 v ∧ F0 227 v < 1600)) :
    RSt F0 X f dp fn c [tcd 0 v] (tsk 0 (F0 227 v)) (mk 6 q 0 :: W') := by
  have hXX := hK.1.hX
  have hlen := (Fw_len hXX hf).2.2.1
  intro F g r vs s res T rr R hW hd hS hfr hR hrr hvs hT hrl hDE hKN hKL
  obtain ⟨w1, w2, w3, w4⟩ := wat_hd hW
  have hs200 : s ≤ 200 := hR.top.2.2.2.2.2
  rw [show [tcd 0 v] ++ rr = tcd 0 v :: rr from rfl] at hR
  rw [List.length_cons, show W'.length + 1 = 1 + W'.length by omega] at hKN hDE
  have ql := rQ_len (T := T) (fn := fn) (rr := rr)
  by_cases e200 : s = 200
  · subst e200
    exact step_end (a := (q : Int)) (W := W') (by rw [Int.toNat_natCast]; exact hW) (by omega) hS hfr hR hv hrr hvs (by omega) hfn hKL
  rw [rQ_cons] at hR
  refine rpop (how := 0) hS hR (by omega) (by decide) (by omega) (fun G hSG hG hRG => d289_0 hSG ?_)
  have hfG := hfr.tr hG
  refine CaV.on (s_283 (F0 := F0) (how := 0) (kk := 3) hSG hfG hRG (by omega) hv h1 rfl (fun _ => rfl) hnx hon (by omega) (fun _ h => absurd rfl h)) ?_
  rintro F1 hS1 ⟨q1, q2⟩
  rw [if_neg (by decide), if_neg (by decide), if_pos rfl, rQ_tsk, rQ_tsk] at q1
  have lt := tsk_len (h := 0) (un := F0 227 v)
  have hst1 : rsn X 1 ((f, c, g) :: r, vs, s, res) = some ((f, c + 1, g) :: r, vs, s + 1, res) := rsn_one (by rw [rst_at w1, rsw6, if_neg (by omega), rgo_ok (by omega)])
  refine hB F1 g r vs (s + 1) res T (tsk 0 (F0 227 v) ++ rr) R w4 hd hS1 (hfG.tr q2) (q1.pl (q := c + 1) (res' := res)) (rOK_tk hrr hnx) hvs hT (by rw [List.length_append]; omega) (by rw [Nat.add_assoc]; exact hDE) ?_ ?_
  · exact hKN.ahead hst1 (by omega) (by omega)
  · exact hKL.ahead hst1 (by omega) (by omega)
/-- rows of statements -/
theorem RSt_list {P : Nat → Nat → Nat → Nat → List Int → Prop} (hP : ∀ a b c v W, P a b c v W → a ≤ v ∧ v < b) (hPX : ∀ a bb c v W, P a bb c v W → bb ≤ 1600 → (F0 227 v = -1 ∨ (0 ≤ F0 227 v ∧ F0 227 v < 1600)) → RSt F0 X f dp fn c [tcd 0 v] (tsk 0 (F0 227 v)) W ∧ RDs X f c W) : ∀ (k lo hi c : Nat) (x y : Int) (W : List Int), SLq P F0 b k lo hi c x y W → hi ≤ 1600 → (0 < k → F0 227 y.toNat = -1 ∨ (0 ≤ F0 227 y.toNat ∧ F0 227 y.toNat < 1600)) →
    RSt F0 X f dp fn c (tsk 0 x) (if k = 0 then [] else tsk 0 (F0 227 y.toNat)) W ∧ RDs X f c W := by
  intro k
  induction k with
  | zero =>
    rintro lo hi c x y W ⟨h1, rfl, h3, rfl⟩ hh hz
    refine ⟨fun F g r vs s res T rr R hW hd hS hfr hR hrr hvs hT hrl hDE hKN hKL => ?_, fun _ _ _ _ h => h⟩
    rw [tsk_no] at hR
    rw [if_pos rfl] at hKN
    exact hKN F g s res 0 hS hfr hR rfl (Nat.le_refl _) (Nat.le_refl _)
  | succ k ih =>
    rintro lo hi c x y W ⟨m, v, x', y', W1, W2, h1, rfl, h3, h4, rfl, h6⟩ hh hz
    have r1 := SLq.rng hP _ _ _ _ _ _ _ h1
    have r2 := hP _ _ _ _ _ h3
    have hz' := hz (Nat.succ_pos k)
    rw [Int.toNat_natCast] at hz' ⊢
    obtain ⟨s1, s2⟩ := hPX _ _ _ _ _ h3 hh hz'
    rw [if_neg (Nat.succ_ne_zero k)]
    by_cases e : k = 0
    · subst e
      obtain ⟨-, -, -, rfl⟩ := h1
      rw [if_pos rfl] at h6
      rw [h6, tsk_n, List.nil_append]
      rw [List.length_nil, Nat.add_zero] at s1 s2
      exact ⟨s1, s2⟩
    · rw [if_neg e] at h6
      obtain ⟨i1, i2⟩ := ih lo m c x' y' W1 h1 (by omega) (fun _ => Or.inr ⟨by omega, by omega⟩)
      rw [if_neg e, h6.2, tsk_n] at i1
      rw [h6.1]
      refine ⟨fun F g r vs s res T rr R hW hd hS hfr hR hrr hvs hT hrl hDE hKN hKL => ?_, fun hW r vs hl hDE => ?_⟩
      · obtain ⟨w1, w2⟩ := hW.app
        rw [List.length_append] at hDE hKN
        rw [← Nat.add_assoc] at hDE
        refine i1 F g r vs s res T rr R w1 hd hS hfr hR hrr hvs hT hrl (s2 w2 r vs (by omega) hDE) ?_ hKL
        intro F1 g1 s1' res1 m1 hS1 hfr1 hR1 hm1 hc1 hs1
        exact s1 F1 g1 r vs s1' res1 T rr R w2 hd hS1 hfr1 hR1 hrr hvs hT (by omega) hDE (hKN.ahead hm1 hc1 hs1) (hKL.ahead hm1 (by omega) hs1)
      · obtain ⟨w1, w2⟩ := hW.app
        rw [List.length_append, ← Nat.add_assoc] at hDE
        exact i2 w1 r vs hl (s2 w2 r vs hl hDE)
theorem RBs_of {P : Nat → Nat → Nat → Nat → List Int → Prop} (hK : LKd F0 X nn) (hf : f < 3) (hP : ∀ a b c v W, P a b c v W → a ≤ v ∧ v < b) (hPX : ∀ a bb c v W, P a bb c v W → bb ≤ 1600 → (F0 227 v = -1 ∨ (0 ≤ F0 227 v ∧ F0 227 v < 1600)) → RSt F0 X f dp fn c [tcd 0 v] (tsk 0 (F0 227 v)) W ∧ RDs X f c W) (h : Bk P F0 lo hi c b W) (hh : hi ≤ 1600) : RBs F0 X f dp fn c b W ∧ RDs X f c W := by
  have hlen := (Fw_len hK.1.hX hf).2.2.1
  obtain ⟨h1, h2, k, t, e, cl, y, Ws, h3, h4, h5, h6, h7, rfl⟩ := h
  have r1 := SLq.rng hP _ _ _ _ _ _ _ h4
  obtain ⟨i1, i2⟩ := RSt_list hP hPX k _ _ _ _ _ _ h4 hh (fun hk => Or.inl (h5 (by omega)))
  have e0 : (if k = 0 then [] else tsk 0 (F0 227 y.toNat)) = [] := by
    by_cases e : k = 0
    · rw [if_pos e]
    · rw [if_neg e, h5 (by omega), tsk_no]
  rw [e0] at i1
  have lW : (mk 3 t 0 :: (Ws ++ [mk 4 e cl])).length = 1 + (Ws.length + 1) := by rw [List.length_cons, List.length_append, List.length_singleton]; omega
  have DE : Wat X f c (mk 3 t 0 :: (Ws ++ [mk 4 e cl])) → ∀ (r : List RuF) (vs : List Int), vs.length < 800 → RDE X f r vs (c + (1 + (Ws.length + 1))) → RDE X f r vs (c + 1 + Ws.length) := by
    intro hW r vs hl hDE
    obtain ⟨w1, w2, w3, w4⟩ := wat_hd hW
    obtain ⟨w5, w6, w7, w8⟩ := wat_last w4
    exact RDE.no w6 (by decide) hl (by rw [show c + 1 + Ws.length + 1 = c + (1 + (Ws.length + 1)) by omega]; exact hDE)
  refine ⟨fun F g r vs s res T rr R hW hd hS hfr hR hrr hvs hT hrl hDE hKN hKL => ?_, fun hW r vs hl hDE => ?_⟩
  · obtain ⟨w1, w2, w3, w4⟩ := wat_hd hW
    obtain ⟨w5, w6, w7, w8⟩ := wat_last w4
    rw [lW] at hDE hKN
    have hst1 : rsn X 1 ((f, c, g) :: r, vs, s, res) = some ((f, c + 1, g) :: r, vs, s, res) := rsn_one (by rw [rst_at w1, rswN (by decide), rgo_ok (by omega)])
    refine i1 F g r vs s res T rr R w5 hd hS hfr (hR.pl (q := c + 1) (res' := res)) hrr hvs hT (by omega) (DE hW r vs (by omega) hDE) ?_ (hKL.ahead hst1 (by omega) (Nat.le_refl _))
    intro F1 g1 s1' res1 m1 hS1 hfr1 hR1 hm1 hc1 hs1
    refine hKN F1 g1 s1' res1 (1 + m1 + 1) hS1 hfr1 hR1.pl (rsn_app (1 + m1) _ (rsn_app 1 _ hst1 hm1) (rsn_one ?_)) (by omega) hs1
    rw [rst_at w6, rswN (by decide), rgo_ok (by omega), show c + 1 + Ws.length + 1 = c + (1 + (Ws.length + 1)) by omega]
  · obtain ⟨w1, w2, w3, w4⟩ := wat_hd hW
    obtain ⟨w5, w6, w7, w8⟩ := wat_last w4
    rw [lW] at hDE
    exact RDE.no w1 (by decide) hl (i2 w5 r vs hl (DE hW r vs hl hDE))
end Me6
