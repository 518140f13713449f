/-! READING, OF THE REFERENCE: the rounds of readExpr -/
section M94
variable {F F' : MF} {K : List Int} {n0 N a0 a : Nat} {C0 C : List Int} {l : Lv} {r L : List Lv}
theorem l_121 {x1 v : Int} {R : MF → Prop} (hS : St F) (h63 : F 201 63 = 0) (hne : x1 ≠ 0 → v = 0 → F 201 54 ≠ 0) (hL : L_233_39 x1 v F R m_no) : L_233_121 x1 v F R m_no := by
  refine b_233_121 hS ⟨fun _ => ⟨fun _ => ?_, fun e => ⟨fun e2 => ⟨fun e3 => absurd e3 (hne e e2), fun _ => ?_⟩, fun _ => ?_⟩⟩, fun e => absurd h63 e⟩
  · rw [up_self h63]; exact hL
  · rw [up_self h63]; exact hL
  · rw [up_self h63]; exact hL
theorem l_121z {x1 v : Int} {R : MF → Prop} (hS : St F) (hL : ∀ x, L_233_39 x1 v (m_up F 201 63 x) R m_no) : L_233_121 x1 v F R m_no :=
  b_233_121 hS ⟨fun _ => ⟨fun _ => hL 0, fun _ => ⟨fun _ => ⟨fun _ => hL 1, fun _ => hL 0⟩, fun _ => hL 0⟩⟩, fun _ => hL 1⟩
theorem l_W {x1 : Int} {R : MF → Prop} (hS : St F) (h63 : F 201 63 = 0) (h : EW F K n0 C0 (l :: r) a N C) (hJ : JW K n0 a0 a N (l :: r)) (hQ : SQ F K) (ha : a ≤ K.length) (hK : K.length ≤ 195)
    (go : ∀ x : Int, (kn K a = 11 → (x ≠ 0 ↔ shp l = 2 ∧ (a : Int) = opn l + 2)) → C_231 x F (fun r F' => L_233_121 x1 r F' R m_no) m_no) : L_233_39 x1 1 F R m_no := by
  obtain ⟨-, -, -, hsh⟩ := h.cn
  obtain ⟨⟨s0, q0, lo0, W0, s, q, h1, h2, h3, h4⟩, h5, h6, h7, h8, h9⟩ := h
  change F 201 54 = ((r.length : Nat) : Int) at h6
  change F 201 60 = nts l at h7
  have hl := hJ.1.1 l List.mem_cons_self
  have hcount : pq l + PQs r + (r.length + 1) + a0 ≤ a + 1 := hJ.1.2
  have hB : JB K a l := hJ.2.2
  refine b_233_39 hS ⟨fun _ => ⟨fun _ => ⟨fun e => absurd e (by decide), fun _ => ?_⟩, fun e => absurd h9 e⟩, fun e => absurd h63 e⟩
  rw [h6, h8, h7]
  refine ⟨fun e => ⟨by omega, fun e1 => go 0 (fun _ => ⟨fun x => absurd rfl x, fun x => ?_⟩), fun e1 => ?_⟩, fun e => go 0 (fun _ => ⟨fun x => absurd rfl x, fun x => ?_⟩)⟩
  · exfalso
    rw [Int.toNat_natCast] at e1
    obtain ⟨-, ⟨g1, g2, -⟩ | ⟨s1, q1, lo1, s2, m, W1, W2, g1, g2, g3, g4, g5, ⟨g6, -⟩ | ⟨g6, g7, -⟩⟩⟩ := h1
    · omega
    · omega
    · omega
  · rw [Int.toNat_natCast] at e1
    have h2s : shp l = 2 := by
      obtain ⟨-, ⟨g1, g2, -⟩ | ⟨s1, q1, lo1, s2, m, W1, W2, g1, g2, g3, g4, g5, ⟨g6, g7, -⟩ | ⟨g6, -⟩⟩⟩ := h1
      · rw [g1] at e; exact absurd e (by decide)
      · exact absurd g7 e1
      · exact g6
    have hle := hl.2.2.2 h2s
    obtain ⟨b1, b2⟩ := hB h2s
    have hop := hl.2.1
    rw [show (a : Int) - 1 = ((a - 1 : Nat) : Int) by omega, Int.toNat_natCast, hQ (a - 1) (by omega)]
    refine ⟨by omega, by omega, fun e2 => ⟨fun e3 => go 1 (fun _ => ⟨fun _ => ⟨h2s, b1.mp e2⟩, fun _ => by decide⟩), fun e3 => go 0 (fun _ => ⟨fun x => absurd rfl x, fun x => absurd (b2 x.2).1 e3⟩)⟩, fun e2 => go 0 (fun _ => ⟨fun x => absurd rfl x, fun x => absurd (b1.mpr x.2) e2⟩)⟩
  · exfalso
    rcases hsh with ⟨-, g⟩ | ⟨g, -⟩
    · omega
    · cases r with
      | nil => exact g rfl
      | cons x y => exact e (by rw [List.length_cons]; omega)
theorem l_233 {x1 : Int} {bot : List Lv} (hb : (x1 = 0 ∧ bot = []) ∨ (x1 ≠ 0 ∧ ∃ b, bot = [b] ∧ b = lv0 0 a0)) (hK : K.length ≤ 195) (hn : n0 + K.length + 10 < 1600 + a0) :
    ∀ (d : Nat) (x : XS) (N : Nat) (F : MF), St F → SQ F K → F 201 63 = 0 → a0 ≤ x.2.1 → x.2.1 ≤ K.length → K.length + 1 ≤ x.2.1 + d → x.2.2.1 ≠ [] →
    ((x.1 = 1 ∧ EW F K n0 C0 (x.2.2.1 ++ bot) x.2.1 N x.2.2.2 ∧ JW K n0 a0 x.2.1 N (x.2.2.1 ++ bot)) ∨ (x.1 = 2 ∧ EHs F K n0 C0 (x.2.2.1 ++ bot) x.2.1 N x.2.2.2 ∧ JH K n0 a0 x.2.1 N (x.2.2.1 ++ bot))) →
    L_233_39 x1 (if x.1 = 1 then 1 else 0) F (XE K n0 a0 C0 F (xrun K d x)) m_no := by
  intro d
  induction d with
  | zero => intro x N F _ _ _ _ h1 h2; omega
  | succ d ih =>
    rintro ⟨st, a, L, C⟩ N F hS hQ h63 ha0 ha hd hL hx
    change a0 ≤ a at ha0
    change a ≤ K.length at ha
    change K.length + 1 ≤ a + (d + 1) at hd
    change L ≠ [] at hL
    cases L with
    | nil => exact absurd rfl hL
    | cons l r =>
    have wk : ∀ (F1 : MF) (y : XS), TG n0 F F1 → L_233_39 x1 (if y.1 = 1 then 1 else 0) F1 (XE K n0 a0 C0 F1 (xrun K d y)) m_no → L_233_39 x1 (if y.1 = 1 then 1 else 0) F1 (XE K n0 a0 C0 F (xrun K d y)) m_no :=
      fun F1 y t k => EvV.mono k (fun F' _ g => g.pre t.te) (fun _ _ _ h => h)
    have one : ∀ (F1 : MF) (y : XS) (N' : Nat), St F1 → TG n0 F F1 → F1 201 63 = 0 → y.1 = 1 → EW F1 K n0 C0 (y.2.2.1 ++ bot) y.2.1 N' y.2.2.2 → JW K n0 a0 y.2.1 N' (y.2.2.1 ++ bot) → a < y.2.1 → y.2.1 ≤ K.length → y.2.2.1 ≠ [] →
        L_233_121 x1 1 F1 (XE K n0 a0 C0 F (xrun K d y)) m_no := by
      intro F1 y N' hS1 t h631 y1 hE hJ hlt hle hne
      refine l_121 hS1 h631 (fun _ e => absurd e (by decide)) ?_
      have := wk F1 y t (ih y N' F1 hS1 (fun i hi => by rw [t.1.2 220 (by omega)]; exact hQ i hi) h631 (by omega) hle (by omega) hne (Or.inl ⟨y1, hE, hJ⟩))
      rw [if_pos y1] at this
      exact this
    have two : ∀ (F1 : MF) (y : XS) (N' : Nat), St F1 → TG n0 F F1 → F1 201 63 = 0 → y.1 = 2 → EHs F1 K n0 C0 (y.2.2.1 ++ bot) y.2.1 N' y.2.2.2 → JH K n0 a0 y.2.1 N' (y.2.2.1 ++ bot) → a < y.2.1 → y.2.1 ≤ K.length → y.2.2.1 ≠ [] →
        L_233_121 x1 0 F1 (XE K n0 a0 C0 F (xrun K d y)) m_no := by
      intro F1 y N' hS1 t h631 y1 hE hJ hlt hle hne
      refine l_121 hS1 h631 (fun e _ e3 => ?_) ?_
      · obtain ⟨-, g, -⟩ := hE
        rw [g] at e3
        rcases hb with ⟨e4, -⟩ | ⟨-, b, e4, -⟩
        · exact e e4
        · rw [e4, List.length_append, List.length_singleton] at e3
          have : 0 < y.2.2.1.length := List.length_pos_iff.mpr hne
          omega
      · have := wk F1 y t (ih y N' F1 hS1 (fun i hi => by rw [t.1.2 220 (by omega)]; exact hQ i hi) h631 (by omega) hle (by omega) hne (Or.inr ⟨y1, hE, hJ⟩))
        rw [if_neg (by omega)] at this
        exact this
    have shut : ∀ (F1 : MF) (N' : Nat) (C' : List Int), St F1 → TG n0 F F1 → F1 201 63 = 0 → (r ++ bot ≠ []) → EHs F1 K n0 C0 (r ++ bot) (a + 1) N' C' → JH K n0 a0 (a + 1) N' (r ++ bot) → a < K.length →
        L_233_121 x1 0 F1 (XE K n0 a0 C0 F (if r = [] then (3, a + 1, r, C') else xrun K d (2, a + 1, r, C'))) m_no := by
      intro F1 N' C' hS1 t h631 hne hE hJ hlt
      by_cases er : r = []
      · rw [if_pos er]
        subst er
        rcases hb with ⟨-, e4⟩ | ⟨e0, b, e4, eb⟩
        · exact absurd (by rw [e4]; rfl) hne
        · subst e4
          change EHs F1 K n0 C0 [b] (a + 1) N' C' at hE
          have h54 : F1 201 54 = 0 := hE.2.1
          refine b_233_121 hS1 ⟨fun _ => ⟨fun e => absurd e e0, fun _ => ⟨fun _ => ⟨fun _ => ?_, fun e => absurd h54 e⟩, fun e => absurd rfl e⟩⟩, fun e => absurd h631 e⟩
          have := l_end (x1 := x1) (x2 := 0) (L' := []) (hS1.fld (k := 63) (v := 1) kd_201 rk_12_63) (hE.up (x := 1)) hJ (by omega) hK hn (by rw [u_eq])
          refine EvV.mono this (fun F' _ g => ?_) (fun _ _ _ h => h)
          have g2 := g.pre (t.te.tr TE.up63)
          subst eb
          have e1 : C' ++ wd 16 (nts (lv0 0 a0)) ++ (wd 17 (tms (lv0 0 a0)) ++ wd 17 (ads (lv0 0 a0)) ++ wd 17 (cps (lv0 0 a0))) = C' := by
            show C' ++ [] ++ ([] ++ [] ++ []) = C'
            simp only [List.append_nil]
          rw [e1] at g2
          exact g2
      · rw [if_neg er]
        exact two F1 (2, a + 1, r, C') N' hS1 t h631 rfl hE hJ (by show a < a + 1; omega) (by show a + 1 ≤ _; omega) er
    have zero : ∀ (F1 : MF) (y : XS) (N' : Nat), St F1 → TG n0 F F1 → F1 201 58 = 1 → F1 201 26 = (y.2.1 : Int) → F1 201 27 = (N' : Int) → n0 ≤ N' → N' + a0 ≤ n0 + y.2.1 → y.1 = 0 → L_233_121 x1 0 F1 (XE K n0 a0 C0 F y) m_no := by
      intro F1 y N' hS1 t h58 h26 h27 hn0 hN y1
      refine l_121z hS1 (fun x => l_fail (hS1.fld kd_201 rk_12_63) ?_ ⟨t.te.tr TE.up63, ?_, fun _ => ?_, N', ?_, hn0, hN, fun e => by omega⟩)
      · rw [u_ne (Or.inr (by decide))]; exact h58
      · rw [u_ne (Or.inr (by decide))]; exact h26
      · rw [u_ne (Or.inr (by decide))]; exact h58
      · rw [u_ne (Or.inr (by decide))]; exact h27
    rcases hx with ⟨e, hE, hJ⟩ | ⟨e, hE, hJ⟩
    · change st = 1 at e
      subst e
      change EW F K n0 C0 (l :: (r ++ bot)) a N C at hE
      change JW K n0 a0 a N (l :: (r ++ bot)) at hJ
      obtain ⟨c1, c2, c3, hsh⟩ := hE.cn
      have h27 : F 201 27 = (N : Int) := hE.2.1
      have hTB := hJ.tb hQ hE ha hK hn
      have hX := xop_J (C := C) bot (K := K) (a := a) (l := l) (r := r) hJ.1 hJ.2.2
      have hJ2 : N + PNs (l :: (r ++ bot)) + a0 ≤ n0 + a := hJ.2.1
      have est : xst K (1, a, l :: r, C) = xsh (xop K a l r C) := rfl
      show L_233_39 x1 1 F _ m_no
      refine l_W hS h63 hE hJ hQ ha hK (fun x hx => ?_)
      refine CaI.on (s_231 hS hE hTB hx) ?_
      intro v F1 hS1 hU
      rw [xop_app] at hU
      show L_233_121 x1 v F1 (XE K n0 a0 C0 F (if (xst K (1, a, l :: r, C)).1 = 0 ∨ (xst K (1, a, l :: r, C)).1 = 3 then xst K (1, a, l :: r, C) else xrun K d (xst K (1, a, l :: r, C)))) m_no
      rw [est]
      have hrg := xop_rng K a l r C
      obtain ⟨t, u1, u2, u4, u0⟩ := hU
      have h631 : F1 201 63 = 0 := (t.2 63 (by decide) (by decide) (by decide) (by decide) (by decide) (by decide) (by decide)).trans h63
      revert u1 u2 u4 u0 hX hrg
      generalize xop K a l r C = y
      obtain ⟨y1, y2, y3, y4⟩ := y
      intro hX hrg u1 u2 u4 u0
      obtain ⟨o1, o2, o4, o0⟩ := hX
      rcases hrg with e | e | e | e
      · change y1 = 0 at e
        subst e
        obtain ⟨rfl, p1, p2, p3⟩ := u0 rfl
        have oa : y2 = a := o0 rfl
        show L_233_121 x1 0 F1 (XE K n0 a0 C0 F (if (0 : Nat) = 0 ∨ (0 : Nat) = 3 then (0, y2, y3, y4) else _)) m_no
        rw [if_pos (Or.inl rfl)]
        exact zero F1 (0, y2, y3, y4) N hS1 t.tg p1 (by rw [p2, ← oa]) (by rw [p3, h27]) c3 (by show N + a0 ≤ n0 + y2; omega) rfl
      · change y1 = 1 at e
        subst e
        obtain ⟨rfl, N', p1, p2⟩ := u1 rfl
        obtain ⟨q1, q2, q3, q4, q5⟩ := o1 rfl
        show L_233_121 x1 1 F1 (XE K n0 a0 C0 F (if (1 : Nat) = 0 ∨ (1 : Nat) = 3 then _ else xrun K d (1, y2, y3, y4))) m_no
        rw [if_neg (by decide)]
        exact one F1 (1, y2, y3, y4) N' hS1 t.tg h631 rfl p1 ⟨q1, by change N' + PNs (y3 ++ bot) + a ≤ N + PNs (l :: (r ++ bot)) + y2 at p2; show N' + PNs (y3 ++ bot) + a0 ≤ n0 + y2; omega, q2⟩ q3 q4 q5
      · change y1 = 2 at e
        subst e
        obtain ⟨rfl, N', p1, p2⟩ := u2 rfl
        obtain ⟨q1, q2, q3⟩ := o2 rfl
        show L_233_121 x1 0 F1 (XE K n0 a0 C0 F (if (2 : Nat) = 0 ∨ (2 : Nat) = 3 then _ else xrun K d (2, y2, y3, y4))) m_no
        rw [if_neg (by decide)]
        change y2 = a + 1 at q1
        change y3 = l :: r at q2
        subst q1 q2
        refine two F1 (2, a + 1, l :: r, y4) N' hS1 t.tg h631 rfl p1 ⟨hJ.1.le (by show a ≤ a + 1; omega), ?_⟩ (by show a < a + 1; omega) (by show a + 1 ≤ _; omega) hL
        change N' + PH (l :: r ++ bot) + a ≤ N + PNs (l :: (r ++ bot)) + (a + 1) at p2
        show N' + PH (l :: r ++ bot) + a0 ≤ n0 + (a + 1)
        omega
      · change y1 = 4 at e
        subst e
        obtain ⟨rfl, N', p1, p2⟩ := u4 rfl
        obtain ⟨q1, q2, q3, q4, ey⟩ := o4 rfl
        change y2 = a at q1
        change y3 = l :: r at q2
        change y4 = C at ey
        subst q1 q2
        have hne : r ++ bot ≠ [] := by
          rcases hsh with ⟨-, g⟩ | ⟨g, -⟩
          · change shp l = 2 at q4
            omega
          · exact g
        have es : xsh (4, y2, l :: r, y4) = ((if r = [] then 3 else 2), y2 + 1, r, y4 ++ [mk (if shp l = 1 then 18 else 15) (opn l).toNat (szs l).toNat]) := rfl
        rw [es, if_neg (show ¬ shp l = 1 by change shp l = 2 at q4; omega), ey]
        have := shut F1 N' _ hS1 t.tg h631 hne p1 ⟨hJ.1.tl.le (by omega), by omega⟩ q3
        by_cases er : r = []
        · rw [if_pos er] at this
          rw [if_pos er, if_pos (Or.inr rfl)]
          exact this
        · rw [if_neg er] at this
          rw [if_neg er, if_neg (by show ¬ ((2 : Nat) = 0 ∨ (2 : Nat) = 3); decide)]
          exact this
    · change st = 2 at e
      subst e
      change EHs F K n0 C0 (l :: (r ++ bot)) a N C at hE
      change JH K n0 a0 a N (l :: (r ++ bot)) at hJ
      obtain ⟨c1, c2, hsh, h27⟩ := hE.cn
      have hGB := hJ.gb hE ha hK hn
      have hX := xbh_J (C := C) bot (K := K) (a := a) (l := l) (r := r) hJ.1
      have hJ2 : N + PH (l :: (r ++ bot)) + a0 ≤ n0 + a := hJ.2
      have est : xst K (2, a, l :: r, C) = xsh (xbh K a l r C) := rfl
      have hl := hJ.1.1 l List.mem_cons_self
      have h58 : F 201 58 = 0 := hE.2.2.2.2
      have h26 : F 201 26 = (a : Int) := hE.2.2.2.1
      show L_233_39 x1 0 F _ m_no
      refine b_233_39 hS ⟨fun _ => ⟨fun _ => ⟨fun _ => ?_, fun e => absurd rfl e⟩, fun e => absurd h58 e⟩, fun e => absurd h63 e⟩
      refine CaI.on (s_232x hS hQ hE hGB ha hK hl.2.1 hl.2.2.1 hJ.1.tl.nt) ?_
      intro v F1 hS1 hU
      rw [xbh_app] at hU
      show L_233_121 x1 v F1 (XE K n0 a0 C0 F (if (xst K (2, a, l :: r, C)).1 = 0 ∨ (xst K (2, a, l :: r, C)).1 = 3 then xst K (2, a, l :: r, C) else xrun K d (xst K (2, a, l :: r, C)))) m_no
      rw [est]
      obtain ⟨t, u1, u4, u3, u0⟩ := hU
      revert u1 u3 u4 u0 hX
      generalize xbh K a l r C = y
      obtain ⟨y1, y2, y3, y4⟩ := y
      intro hX u1 u4 u3 u0
      obtain ⟨hrg, o1, o4, o3, o0⟩ := hX
      rcases hrg with e | e | e | e
      · change y1 = 0 at e
        subst e
        obtain ⟨rfl, p1⟩ := u0 rfl
        have oa : y2 = a := o0 rfl
        show L_233_121 x1 0 F1 (XE K n0 a0 C0 F (if (0 : Nat) = 0 ∨ (0 : Nat) = 3 then (0, y2, y3, y4) else _)) m_no
        rw [if_pos (Or.inl rfl)]
        refine zero F1 (0, y2, y3, y4) N hS1 t (by rw [p1, u_ne (Or.inr (by decide)), u_eq]) ?_ ?_ c2 (by show N + a0 ≤ n0 + y2; omega) rfl
        · rw [p1, u_ne (Or.inr (by decide)), u_ne (Or.inr (by decide)), h26, ← oa]
        · rw [p1, u_ne (Or.inr (by decide)), u_ne (Or.inr (by decide)), h27]
      · change y1 = 1 at e
        subst e
        obtain ⟨rfl, h631, N', p1, p2⟩ := u1 rfl
        obtain ⟨q1, q2, q3, q4, q5⟩ := o1 rfl
        show L_233_121 x1 1 F1 (XE K n0 a0 C0 F (if (1 : Nat) = 0 ∨ (1 : Nat) = 3 then _ else xrun K d (1, y2, y3, y4))) m_no
        rw [if_neg (by decide)]
        exact one F1 (1, y2, y3, y4) N' hS1 t (h631.trans h63) rfl p1 ⟨q1, by change N' + PNs (y3 ++ bot) + a ≤ N + PH (l :: (r ++ bot)) + y2 at p2; show N' + PNs (y3 ++ bot) + a0 ≤ n0 + y2; omega, q2⟩ q3 q4 q5
      · change y1 = 3 at e
        subst e
        obtain ⟨rfl, p1⟩ := u3 rfl
        obtain ⟨q1, q2, q3⟩ := o3 rfl
        change y2 = a at q1
        change y4 = _ at q3
        subst q1
        have hr : r ++ bot = [] := (hsh.resolve_right (fun x => by omega)).1
        rw [hr] at hE hJ
        show L_233_121 x1 0 F1 (XE K n0 a0 C0 F (if (3 : Nat) = 0 ∨ (3 : Nat) = 3 then (3, y2, y3, y4) else _)) m_no
        rw [if_pos (Or.inr rfl), q3]
        have eF : F1 = m_up F 201 63 1 := by rw [p1, up_self h58]
        have e63 : F1 201 63 = 1 := by rw [eF, u_eq]
        refine b_233_121 hS1 ⟨fun e => by rw [e63] at e; exact absurd e (by decide), fun _ => ?_⟩
        rw [up_self e63, eF]
        have := l_end (x1 := x1) (x2 := 0) (L' := y3) (hS.fld (k := 63) (v := 1) kd_201 rk_12_63) (hE.up (x := 1)) hJ ha hK hn (by rw [u_eq])
        exact EvV.mono this (fun F' _ g => g.pre TE.up63) (fun _ _ _ h => h)
      · change y1 = 4 at e
        subst e
        obtain ⟨rfl, h631, N', p1, p2⟩ := u4 rfl
        obtain ⟨q1, ⟨l', q2, q3, q4⟩, q5, q6⟩ := o4 rfl
        change y2 = a at q1
        change y3 = l' :: r at q2
        subst q1 q2
        have es : xsh (4, y2, l' :: r, y4) = ((if r = [] then 3 else 2), y2 + 1, r, y4 ++ [mk (if shp l' = 1 then 18 else 15) (opn l').toNat (szs l').toNat]) := rfl
        rw [es, q3, q4]
        have hne : r ++ bot ≠ [] := (hsh.resolve_left (fun x => q6 x.2)).1
        have := shut F1 N' _ hS1 t (h631.trans h63) hne p1 ⟨hJ.1.tl.le (by omega), by omega⟩ q5
        by_cases er : r = []
        · rw [if_pos er] at this
          rw [if_pos er, if_pos (Or.inr rfl)]
          exact this
        · rw [if_neg er] at this
          rw [if_neg er, if_neg (by show ¬ ((2 : Nat) = 0 ∨ (2 : Nat) = 3); decide)]
          exact this
end M94
