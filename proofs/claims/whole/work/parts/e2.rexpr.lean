/-! RUNNING, OF THE REFERENCE: exprs -/
/-- a function runs to its end -/
def FRM (F0 : MF) (X : Nat → List Int) (dp : Nat) : Prop := ∀ (f : Nat) (it : IT) (cp lo hi : Nat) (F : MF) (g : Nat → Int) (rr : List RuF) (vs : List Int) (s : Nat) (res : Int) (T : List Int) (R : Int → MF → Prop), f < 3 → ItP F0 (ks X f) cp lo hi it → it.2.1 = 2 → Wat X f cp it.2.2.2.2.2 → rr.length + dp = 4 → St F → frR F0 F → RunM F ((f, cp, g) :: rr, vs, s, res) (T ++ [tcd 9 it.1] ++ tsk 0 (F0 224 it.2.2.2.2.1)) → vs.length ≤ 200 * rr.length → T.length ≤ 700 * rr.length →
  (∀ (F' : MF) (s' : Nat) (x : Int) (m : Nat), St F' → frR F0 F' → RunM F' (rr, x :: vs, s', x) T → rsn X m ((f, cp, g) :: rr, vs, s, res) = some (rr, x :: vs, s', x) → m + 650 * s ≤ 641 + 650 * s' → s ≤ s' → L_290_83 F' R m_no) → L_290_83 F R m_no
/-- an expr is reckoned -/
def RXe (F0 : MF) (X : Nat → List Int) (f dp v : Nat) (W : List Int) : Prop := ∀ (c : Nat) (F : MF) (g : Nat → Int) (r : List RuF) (vs : List Int) (s : Nat) (res : Int) (T : List Int) (R : Int → MF → Prop), Wat X f c W → r.length + 1 + dp = 4 → St F → frR F0 F → RunM F ((f, c, g) :: r, vs, s, res) (T ++ [tcd 1 v]) → vs.length + sm bx W ≤ 200 * r.length + 195 → T.length + W.length ≤ 700 * r.length + 690 →
  (∀ (F' : MF) (s' : Nat) (res' x : Int) (m : Nat), St F' → frR F0 F' → RunM F' ((f, c + W.length, g) :: r, x :: vs, s', res') T → rsn X m ((f, c, g) :: r, vs, s, res) = some ((f, c + W.length, g) :: r, x :: vs, s', res') → m + 650 * s ≤ W.length + 650 * s' → s ≤ s' → L_290_83 F' R m_no) → L_290_83 F R m_no
/-- args are reckoned -/
def RXa (F0 : MF) (X : Nat → List Int) (f dp k : Nat) (x y : Int) (W : List Int) : Prop := ∃ as : List (Nat × Int), as.length = k ∧ (k = 0 ∧ as = [] ∨ 0 < k ∧ ArC F0 x as (F0 227 y.toNat)) ∧ (∀ a ∈ as, a.1 < 1600) ∧ k ≤ sm bx W ∧ k ≤ W.length ∧
  ∀ (c : Nat) (F : MF) (g : Nat → Int) (r : List RuF) (vs : List Int) (s : Nat) (res : Int) (T : List Int) (R : Int → MF → Prop), Wat X f c W → r.length + 1 + dp = 4 → St F → frR F0 F → RunM F ((f, c, g) :: r, vs, s, res) (T ++ (as.map (fun a => tcd 1 a.1)).reverse) → vs.length + sm bx W ≤ 200 * r.length + 195 → T.length + W.length ≤ 700 * r.length + 690 →
  (∀ (F' : MF) (s' : Nat) (res' : Int) (xs : List Int) (m : Nat), xs.length = k → St F' → frR F0 F' → RunM F' ((f, c + W.length, g) :: r, xs ++ vs, s', res') T → rsn X m ((f, c, g) :: r, vs, s, res) = some ((f, c + W.length, g) :: r, xs ++ vs, s', res') → m + 650 * s ≤ W.length + 650 * s' → s ≤ s' → L_290_83 F' R m_no) → L_290_83 F R m_no
section Me2
variable {F F0 G H : MF} {X : Nat → List Int} {f p k v u t c dp d lo hi e : Nat} {g : Nat → Int} {r fs : List RuF} {vs vs' T T' : List Int} {s : Nat} {res a b x w : Int} {S : RuS} {nn : Nat → Nat} {W W1 W2 : List Int}
theorem wrd_at (h : Wat X f c (w :: W)) : wrd X f c = w := by
  have hl := h.1
  rw [List.length_cons] at hl
  unfold wrd
  rw [if_pos (by omega)]
  exact h.cons.1
theorem rst_at (h : wrd X f c = w) : rst X ((f, c, g) :: r, vs, s, res) = rsw X w f c g r vs s res := by
  show rsw X (wrd X f c) f c g r vs s res = _
  rw [h]
theorem rgo_ok (h : vs.length ≤ 800) : rgo f c g r vs s res = some ((f, c, g) :: r, vs, s, res) := if_pos h
theorem rsw14 (hp : p < 256) : rsw X (mk 14 p 0) f c g r vs s res = rgo f (c + 1) g r (lfv X f p g :: vs) s res := by
  unfold rsw
  rw [wo_mk (by decide), wt_mk (by decide) hp, Int.toNat_natCast, if_pos (by decide)]
theorem rsw15 (hp : p < 256) : rsw X (mk 15 p k) f c g r vs s res = (if vs.length < k then none else if bnd X (200 * f + p) = -1 ∨ 200 ≤ s ∨ 4 ≤ r.length + 1 then rgo f (c + 1) g r (0 :: vs.drop k) s res else some (ren X (bnd X (200 * f + p)).toNat k ((f, c + 1, g) :: r) vs (s + 1) res)) := by
  unfold rsw
  rw [wo_mk (by decide), wt_mk (by decide) hp, we_mk (by decide) hp, Int.toNat_natCast, Int.toNat_natCast, if_neg (by decide), if_pos (by decide)]
theorem rsw16 : rsw X (mk 16 p 0) f c g r (a :: vs) s res = rgo f (c + 1) g r ((if a = 0 then 1 else 0) :: vs) s res := by
  unfold rsw
  rw [wo_mk (by decide), if_neg (by decide), if_neg (by decide), if_pos (by decide)]
theorem rsw17 (hp : p < 256) : rsw X (mk 17 p 0) f c g r (b :: a :: vs) s res = rgo f (c + 1) g r (prv (kn (ks X f) p) a b :: vs) s res := by
  unfold rsw
  rw [wo_mk (by decide), wt_mk (by decide) hp, Int.toNat_natCast, if_neg (by decide), if_neg (by decide), if_neg (by decide), if_pos (by decide)]
theorem rsw18 : rsw X (mk 18 p e) f c g r vs s res = rgo f (c + 1) g r vs s res := by
  unfold rsw
  rw [wo_mk (by decide), if_neg (by decide), if_neg (by decide), if_neg (by decide), if_neg (by decide), if_neg (by decide), if_neg (by decide), if_neg (by decide), if_neg (by decide), if_neg (by decide), if_neg (by decide), if_neg (by decide)]
theorem w64_48 (a : Int) : w64 (w64 a - 48) = w64 (a - 48) := by
  unfold w64
  omega
theorem gx_rev {l : List Int} {q : Nat} (h : q < l.length) : gx l.reverse q = gx l (l.length - 1 - q) := by
  unfold gx
  rw [List.getD_eq_getElem?_getD, List.getD_eq_getElem?_getD, List.getElem?_reverse h]
theorem bx_1 {o : Nat} (h : 14 ≤ o ∧ o < 256) : bx (mk o p e) = 1 := by
  unfold bx
  rw [wo_mk (by omega), if_pos (by omega)]
theorem bnd_loc (hX : ∀ r, r < 24 → Rok (X r)) (hf : f < 3) {i o : Nat} (hi : i < (Cw X f).length) (hw : gx (Cw X f) i = mk o p e) (ho : o = 14 ∧ kn (ks X f) p = 0 ∨ o = 7 ∨ o = 8) (hp : p < 256) : bnd X (200 * f + p) = -1 ∨ ∃ m : Nat, bnd X (200 * f + p) = ((200 * f + m : Nat) : Int) ∧ m < 200 := by
  have hb : bset X f (gx (Cw X f) i) (p : Int) := by
    rw [hw]
    exact (bset_1 (by omega) hp).mpr rfl
  obtain ⟨m, h1, h2, -⟩ := bset_tok hX hf hi hb
  have l1 := toks_len hX hf
  have e0 : ((200 * f + p : Nat) : Int) - 200 * (f : Int) = (p : Int) := by omega
  have e1 := bnd_at hX hf hi (show 200 * f + p < 600 by omega) (by rw [e0]; exact hb)
  unfold bval at e1
  rw [hw, wo_mk (by omega), if_neg (by omega), wt_mk (by omega) hp, Int.toNat_natCast] at e1
  rw [e1]
  by_cases c1 : (o : Int) = 8 ∨ (o : Int) = 14
  · rw [if_pos c1]
    by_cases c2 : fst' X f p (cand (sat (Cw X f) (i + 1))) = -1
    · rw [if_pos c2]; exact Or.inl rfl
    · rw [if_neg c2]
      have hm := (fst_mem (X := X) (f := f) (k := p) (cand (sat (Cw X f) (i + 1)))).resolve_left c2
      obtain ⟨j, j1, j2, -⟩ := cand_set hX hf (i + 1) (by omega) _ hm
      obtain ⟨m', m1, m2, -⟩ := bset_tok hX hf j1 j2
      exact Or.inr ⟨m', by omega, by omega⟩
  · rw [if_neg c1]
    exact Or.inr ⟨p, rfl, by omega⟩
theorem d289_1 {R : MF → Prop} (hS : St F) (h : C_285 (u : Int) F R m_no) : C_289 ((1 : Nat) : Int) (u : Int) F R m_no := c_289 hS ⟨fun h => absurd h (by decide), fun _ => ⟨fun _ => h, fun h => absurd rfl h⟩⟩
theorem RunM.top (h : RunM F ((f, c, g) :: r, vs, s, res) T) : F 201 87 = ((r.length + 1 : Nat) : Int) ∧ F 261 r.length = (f : Int) ∧ f < 3 ∧ (∀ t, t < 200 → F 260 (600 * r.length + 200 * f + t) = g t) ∧ F 201 88 = (s : Int) ∧ s ≤ 200 :=
  ⟨h.2.2.1, h.2.2.2.2.1, h.2.2.2.2.2.2.1, h.2.2.2.2.2.1, h.2.2.2.1.1, h.2.2.2.1.2⟩
theorem q_282 (hR : RunM F ((f, c, g) :: r, vs, s, res) T) (hr : r.length < 4) (hv : v < 1600) (h22 : F 222 v = (p : Int)) (hp : p < 8388608) : g_282 F (v : Int) = ((200 * f + p : Nat) : Int) ∧ o_282 F (v : Int) := by
  obtain ⟨t1, t2, t3, -⟩ := hR.top
  unfold g_282 o_282
  rw [t1, show (((r.length + 1 : Nat) : Int) - 1).toNat = r.length by omega, t2, Int.toNat_natCast, h22]
  exact ⟨by omega, by omega, by omega, by omega, by omega, by omega, trivial⟩
theorem q_281 (hR : RunM F ((f, c, g) :: r, vs, s, res) T) (hr : r.length < 4) (hp : p < 600) : g_281 F (p : Int) = ((600 * r.length + p : Nat) : Int) ∧ o_281 F (p : Int) := by
  obtain ⟨t1, -⟩ := hR.top
  unfold g_281 o_281
  rw [t1]
  exact ⟨by omega, by omega, by omega, by omega, trivial⟩
/-- the value of a plain node -/
theorem s_284 (hK : LKd F0 X nn) (hS : St F) (hfr : frR F0 F) (hR : RunM F ((f, c, g) :: r, vs, s, res) T) (hr : r.length < 4) (hv : v < 1600) (h22 : F0 222 v = (p : Int)) (hp : p < 256) (hk : kp (ks X f) p) (hc : c < (Cw X f).length) (hw : gx (Cw X f) c = mk 14 p 0) :
    C_284 (v : Int) F (fun x F' => x = lfv X f p g ∧ F' = F) m_no := by
  have hX := hK.1.hX
  obtain ⟨t1, t2, hf, t4, -⟩ := hR.top
  have lk := toks_len hX hf
  have hpl := kp_len hk
  obtain ⟨b1, b2, b3, b4⟩ := hK.base
  have q := q_282 hR hr hv (by rw [hfr.nd 222 (by decide) (by decide)]; exact h22) (by omega)
  have hid : 200 * f + p < 600 := by omega
  have hM := hK.1.2.1 f hf
  have hRA : RA F X nn := hK.1.cong (fun c x y => hfr.nd c (by omega) x) (hfr.2 27 (by decide) (by decide) (by decide) (by decide)) hX
  refine c_284 hS ?_
  rw [q.1, Int.toNat_natCast, hfr.nd 213 (by decide) (by decide), hfr.nd 253 (by decide) (by decide), b4 f p hf hpl, b2 _ hid]
  unfold lfv
  refine ⟨q.2, by omega, fun k1 => ?_, fun k1 => ⟨fun k8 => ⟨?_, rfl⟩, fun k8 => ⟨fun k9 => ⟨?_, rfl⟩, fun k9 => ⟨by omega, fun c1 => ⟨?_, rfl⟩, fun c1 => ⟨by omega, ?_⟩⟩⟩⟩⟩
  · rw [if_pos k1]
    have key : ∀ (d i : Nat), i + d = ts X f p → L_284_70 ((200 * f + p : Nat) : Int) (nvr X f p i) (i : Int) F (fun x F' => x = nvr X f p (ts X f p) ∧ F' = F) m_no := by
      intro d
      induction d with
      | zero =>
        intro i hi
        refine b_284_70 hS ?_
        rw [Int.toNat_natCast, hfr.nd 216 (by decide) (by decide), (lexm_tok hM hpl).2.2.2]
        exact ⟨by omega, fun h => by omega, fun _ => ⟨by rw [show i = ts X f p by omega], rfl⟩⟩
      | succ d ih =>
        intro i hi
        have e2 := q_219 hRA.1 hX (hRA.2.1 f hf) hf hpl (show i < ts X f p by omega)
        have tb := toks_ok hpl
        have tb2 := (hX (8 * f + tl X f p) (by omega)).1
        have tb3 := tb.2.2.1
        refine b_284_70 hS ?_
        rw [Int.toNat_natCast, hfr.nd 216 (by decide) (by decide), (lexm_tok hM hpl).2.2.2, e2.1, w64_48]
        refine ⟨by omega, fun _ => ⟨e2.2, by omega, ?_⟩, fun h => by omega⟩
        rw [show (i : Int) + 1 = ((i + 1 : Nat) : Int) by omega, show w64 (10 * nvr X f p i) + chr X f p i - 48 = w64 (10 * nvr X f p i) + (chr X f p i - 48) by omega]
        exact ih (i + 1) (by omega)
    exact key (ts X f p) 0 (by omega)
  · rw [if_neg k1, if_neg (by omega), if_pos k8]
  · rw [if_neg k1, if_neg (by omega), if_neg k8]
  · have k0 : kn (ks X f) p = 0 := by unfold kp at hk; omega
    rw [if_neg k1, if_pos k0, if_pos c1]
  · have k0 : kn (ks X f) p = 0 := by unfold kp at hk; omega
    obtain ⟨m, m1, m2⟩ := (bnd_loc hX hf hc hw (Or.inl ⟨rfl, k0⟩) hp).resolve_left c1
    rw [m1]
    have q3 := q_281 hR hr (p := 200 * f + m) (by omega)
    rw [q3.1, Int.toNat_natCast, show 600 * r.length + (200 * f + m) = 600 * r.length + 200 * f + m by omega, t4 m m2]
    refine ⟨q3.2, by omega, ?_, rfl⟩
    rw [if_neg k1, if_pos k0, if_neg (by omega), Int.toNat_natCast, show (200 * f + m) % 200 = m by omega]
end Me2
