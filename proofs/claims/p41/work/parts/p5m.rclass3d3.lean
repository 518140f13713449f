/-! RUNNING, OF THE CLASS: exprs, calls; a run -/
section Md3
variable {F G : MF} {X : Nat → List Int} {n f p k t : Nat} {g : Nat → Int} {r fs : List RuF} {vs vs' : List Int} {s : Nat} {res v w a : Int} {S S1 S' : RuS} {R : MF → Prop}
theorem RunC.drop (h : RunC F (fs, vs, s, res)) (hk : k ≤ vs.length) : RunC (m_up F 91 5 ((vs.length - k : Nat) : Int)) (fs, vs.drop k, s, res) := by
  have hA : AL (F 93) vs.reverse := h.2.2.1.2.1
  have hl : vs.length ≤ 800 := h.2.2.1.2.2
  refine h.vls (by rw [u_eq, List.length_drop]) (fun i hi => ?_) (by rw [List.length_drop]; omega) (fun j hj => u_ne (Or.inr hj)) (fr.rf.up (Or.inl rfl))
  rw [u_ne (Or.inl (by decide))]
  have e1 : vs.reverse = (vs.drop k).reverse ++ (vs.take k).reverse := by rw [← List.reverse_append, List.take_append_drop]
  rw [e1] at hA
  exact hA.pre i hi
theorem s_93 {id : Nat} (hn : n ∈ m_I1) (hS : St F) (hX : ∀ r, r < 24 → Rok (X r)) (hD : DTT F n X) (hR : RunC F ((f, p, g) :: r, vs, s, res)) (hk : k ≤ vs.length) (hid : id < 600) (hx : ∀ v : Nat, bnd X id = (v : Int) → fix' (Fw X (v / 200)) ((v % 200 : Nat) : Int) 0 ≠ -1)
    (hs : (if bnd X id = -1 ∨ 200 ≤ s ∨ 4 ≤ r.length + 1 then rgo f p g r (0 :: vs.drop k) s res else some (ren X (bnd X id).toNat k ((f, p, g) :: r) vs (s + 1) res)) = some S') :
    C_93 n (bnd X id) (k : Int) F (fun F' => RunC F' S' ∧ fr RunP F F') m_no := by
  have br := bnd_rng hX id hid
  have h4 : F 91 4 = ((r.length + 1 : Nat) : Int) := hR.1
  have h6 : F 91 6 = (s : Int) := hR.2.2.2.1
  have h5 : F 91 5 = (vs.length : Int) := hR.2.2.1.1
  have hl8 : vs.length ≤ 800 := hR.2.2.1.2.2
  have hr4 : r.length + 1 ≤ 4 := hR.2.1
  have eg : g_437 F 0 ((vs.length : Int) - (k : Int)) = ((vs.length - k : Nat) : Int) := by unfold g_437; split <;> omega
  have none' : (bnd X id = -1 ∨ 200 ≤ s ∨ 4 ≤ r.length + 1) → C_82 0 (m_up F 91 5 (g_437 F 0 ((vs.length : Int) - (k : Int)))) (fun F' => RunC F' S' ∧ fr RunP F F') m_no := by
    intro c
    rw [if_pos c] at hs
    obtain ⟨l, rfl⟩ := rgo_some hs
    have l' : (vs.drop k).length + 1 ≤ 800 := l
    rw [eg]
    refine CaV.on (s_82r (hS.fld kd_91 rk_6_5) (hR.drop hk) (by omega)) ?_
    rintro F1 hS1 ⟨q1, q2⟩
    exact ⟨q1, (fr.rf.up (by unfold RunP; omega)).tr q2⟩
  refine c_93 hn hS ?_
  rw [h4, h5, h6]
  refine ⟨fun c => ⟨by omega, none' (Or.inl c)⟩, fun c => ⟨fun c2 => ⟨fun c3 => ⟨by omega, ?_⟩, fun c3 => ⟨by omega, none' (Or.inr (Or.inr (by omega)))⟩⟩, fun c2 => ⟨by omega, none' (Or.inr (Or.inl (by omega)))⟩⟩⟩
  rw [if_neg (by omega)] at hs
  injection hs with hs
  subst hs
  obtain ⟨v, hv⟩ : ∃ v : Nat, bnd X id = (v : Int) := ⟨(bnd X id).toNat, by omega⟩
  rw [hv, Int.toNat_natCast]
  have hR1 := hR.st
  refine CaV.on (s_84 (res := res) hn (hS.fld kd_91 rk_6_6) hX (frRun_dtt hn hD (fr.rf.up (by unfold RunP; omega))) (by omega) (hx v hv) hR1.1 (by show r.length + 1 < 4; omega) hR1.2.2.1.1 hR1.2.2.1.2.1 hl8 hR1.2.2.2.1 hR1.2.2.2.2.1 hk hR1.2.2.2.2.2) ?_
  rintro F1 hS1 ⟨q1, q2⟩
  exact ⟨q1, (fr.rf.up (by unfold RunP; omega)).tr q2⟩
theorem prv_88 {F : MF} {x0 x1 x3 : Int} : g_88 F x0 x1 x3 = prv x0 x1 x3 := by
  unfold g_88 prv
  have e : ∀ y z : Int, ((if y < z then (-1 : Int) else if y = z then 0 else 1) = 0 ↔ y = z) ∧ ((if y < z then (-1 : Int) else if y = z then 0 else 1) < 0 ↔ y < z) := fun y z => by
    split
    · omega
    · split <;> omega
  by_cases k : x0 = 17
  · rw [if_pos k, if_pos k]
    by_cases h : x1 = x3
    · rw [if_pos ((e x1 x3).1.mpr h), if_pos h]
    · rw [if_neg (fun q => h ((e x1 x3).1.mp q)), if_neg h]
  · rw [if_neg k, if_neg k]
    by_cases k2 : x0 = 18
    · rw [if_pos k2, if_pos k2]
      by_cases h : x1 < x3
      · rw [if_pos ((e x1 x3).2.mpr h), if_pos h]
      · rw [if_neg (fun q => h ((e x1 x3).2.mp q)), if_neg h]
    · rw [if_neg k2, if_neg k2]
/-- words of exprs -/
theorem s_87 (hn : n ∈ m_I1) (hS : St F) (hX : ∀ r, r < 24 → Rok (X r)) (hD : DTT F n X) (hb : ∀ id, id < 600 → F (n + 7) id = bnd X id) (hp : p < (Cw X f).length) (hw : gx (Cw X f) p = w) (hR : RunC F ((f, p + 1, g) :: r, vs, s, res)) (h14 : ¬ wo w < 14) (hrs : rsw X w f p g r vs s res = some S') :
    C_87 n w F (fun F' => RunC F' S' ∧ fr RunP F F') m_no := by
  have hf : f < 3 := hR.2.2.2.2.2.2.2.2.1
  have h7 : F 91 7 = (f : Int) := hR.2.2.2.2.2.1
  have h4 : F 91 4 = ((r.length + 1 : Nat) : Int) := hR.1
  have hr4 : r.length + 1 ≤ 4 := hR.2.1
  have hl8 : vs.length ≤ 800 := hR.2.2.1.2.2
  have hvar : ∀ t, t < 200 → F 92 (200 * r.length + t) = g t := hR.2.2.2.2.2.2.2.1
  have h32 := (Fw_len hX hf).2.2.2 p hp
  rw [hw] at h32
  have hwc := Cw_wc hX hf hp
  rw [hw] at hwc
  obtain ⟨o, q, e, e1, e2, e3⟩ := hwc
  have ho : o < 256 := by unfold oX at e3; omega
  have w1 := wo_mk (o := o) (t := q) (e := e) ho
  have w2 := wt_mk (o := o) (t := q) (e := e) ho e2
  have w3 := we_mk (o := o) (t := q) (e := e) ho e2
  rw [← e1] at w1 w2 w3
  have g0 : ∀ F : MF, g_198 F w = (o : Int) := fun F => by rw [g198 h32, w1]
  have g1 : ∀ F : MF, g_199 F w = (q : Int) := fun F => by rw [g199 h32, w2]
  have g2 : ∀ F : MF, g_200 F w = (e : Int) := fun F => by rw [g200 h32, w3]
  have tll := toks_len hX hf
  have htk : kn (ks X f) q = 0 → 200 * f + q < 600 := fun k0 => by
    have := kn_tok (by rw [k0]; decide : kn (ks X f) q ≠ 24)
    omega
  have hG := (hD.2 f hf).1
  have e104 := q_104 hG hf q
  have o104 := ob_104 hG hX hf q
  unfold rsw at hrs
  rw [w1, w2, w3, Int.toNat_natCast, Int.toNat_natCast] at hrs
  have push : ∀ (x : Int) (S2 : RuS), rgo f (p + 1) g r (x :: vs) s res = some S2 → C_82 x F (fun F' => RunC F' S2 ∧ fr RunP F F') m_no := by
    intro x S2 h
    obtain ⟨l, rfl⟩ := rgo_some h
    have l' : vs.length + 1 ≤ 800 := l
    exact s_82r hS hR (by omega)
  refine c_87 hn hS ?_
  rw [g0, g1, g2, h7, Int.toNat_natCast, e104]
  refine ⟨by omega, o104, fun c14 => ?_, fun c14 => ⟨fun c15 => ?_, fun c15 => ⟨fun c16 => ?_, fun c16 => ⟨fun c17 => ?_, fun c17 => ?_⟩⟩⟩⟩
  · rw [if_pos c14] at hrs
    unfold lfv at hrs
    refine ⟨fun k1 => ?_, fun k1 => ⟨fun k0 => ?_, fun k0 => ⟨fun k8 => ?_, fun k8 => ?_⟩⟩⟩
    · rw [if_pos k1] at hrs
      have ht : q < (toks X f).length := kn_tok (by rw [k1]; decide)
      refine CaL.on (s_89 hn hS hX hD hf h7 ht) ?_
      rintro x F1 hS1 ⟨rfl, rfl⟩
      exact push _ _ hrs
    · rw [if_neg k1, if_pos k0] at hrs
      have ht := htk k0
      have br := bnd_rng hX (200 * f + q) ht
      rw [show (f : Int) * 200 + (q : Int) = ((200 * f + q : Nat) : Int) by omega, Int.toNat_natCast, hb _ ht]
      refine ⟨by omega, by omega, by omega, ?_, ?_⟩
      · unfold o_91 o_90
        rw [h4]
        refine ⟨fun _ => trivial, fun c => ?_⟩
        have eg : g_90 F (bnd X (200 * f + q)) = ((200 * r.length + (bnd X (200 * f + q)).toNat % 200 : Nat) : Int) := by unfold g_90; rw [h4]; omega
        rw [eg]
        exact ⟨⟨by omega, by omega, by omega, by omega, trivial⟩, by omega, trivial⟩
      · unfold g_91
        by_cases c : bnd X (200 * f + q) = -1
        · rw [if_pos c] at hrs ⊢
          exact push _ _ hrs
        · rw [if_neg c] at hrs ⊢
          have eg : g_90 F (bnd X (200 * f + q)) = ((200 * r.length + (bnd X (200 * f + q)).toNat % 200 : Nat) : Int) := by unfold g_90; rw [h4]; omega
          rw [eg, Int.toNat_natCast, hvar _ (by omega)]
          exact push _ _ hrs
    · rw [if_neg k1, if_neg k0, if_pos k8] at hrs
      exact push _ _ hrs
    · rw [if_neg k1, if_neg k0, if_neg k8] at hrs
      exact push _ _ hrs
  · rw [if_neg c14, if_pos c15] at hrs
    have kt : kn (ks X f) q = 0 := by unfold oX at e3; omega
    have ht := htk kt
    have ho15 : o = 15 := by omega
    rw [show (f : Int) * 200 + (q : Int) = ((200 * f + q : Nat) : Int) by omega, Int.toNat_natCast, hb _ ht]
    refine ⟨by omega, by omega, by omega, ?_⟩
    by_cases c : vs.length < e
    · rw [if_pos c] at hrs; cases hrs
    · rw [if_neg c] at hrs
      exact s_93 hn hS hX hD hR (by omega) ht (fun v hv => (bnd_call (e := e) hX hf hp (by rw [hw, e1, ho15]) e2 hv).2) hrs
  · rw [if_neg c14, if_neg c15, if_pos c16] at hrs
    cases vs with
    | nil => cases hrs
    | cons a vs =>
      change rgo f (p + 1) g r ((if a = 0 then 1 else 0) :: vs) s res = some S' at hrs
      refine CaL.on (s_83r hS hR) ?_
      rintro x F1 hS1 ⟨rfl, q2, q3⟩
      rw [cmp0]
      obtain ⟨l, rfl⟩ := rgo_some hrs
      have l' : vs.length + 1 ≤ 800 := l
      refine ⟨fun c1 => ?_, fun c1 => ?_⟩
      · rw [if_pos c1]
        exact CaV.on (s_82r hS1 q2 (by omega)) (fun F2 _ k => ⟨k.1, q3.tr k.2⟩)
      · rw [if_neg c1]
        exact CaV.on (s_82r hS1 q2 (by omega)) (fun F2 _ k => ⟨k.1, q3.tr k.2⟩)
  · rw [if_neg c14, if_neg c15, if_neg c16, if_pos c17] at hrs
    cases vs with
    | nil => cases hrs
    | cons b vs =>
      cases vs with
      | nil => cases hrs
      | cons a vs =>
        change rgo f (p + 1) g r (prv (kn (ks X f) q) a b :: vs) s res = some S' at hrs
        refine CaL.on (s_83r hS hR) ?_
        rintro x F1 hS1 ⟨rfl, q2, q3⟩
        refine CaL.on (s_83r hS1 q2) ?_
        rintro y F2 hS2 ⟨rfl, q4, q5⟩
        rw [prv_88]
        obtain ⟨l, rfl⟩ := rgo_some hrs
        have l' : vs.length + 1 ≤ 800 := l
        exact CaV.on (s_82r hS2 q4 (by omega)) (fun F3 _ k => ⟨k.1, (q3.tr q5).tr k.2⟩)
  · rw [if_neg c14, if_neg c15, if_neg c16, if_neg c17, if_neg (by omega), if_neg (by omega), if_neg (by omega), if_neg (by omega), if_neg (by omega), if_neg (by omega), if_neg (by omega)] at hrs
    obtain ⟨l, rfl⟩ := rgo_some hrs
    exact ⟨hR, fr.rf⟩
theorem wo5 : wo 5 = 5 := by decide
theorem rsw5 : rsw X 5 f p g r vs s res = rlv 0 r vs s := by
  unfold rsw
  rw [wo5, if_neg (by decide), if_neg (by decide), if_neg (by decide), if_neg (by decide), if_pos (by decide)]
theorem l_81r {F0 : MF} {z : Int} (hn : n ∈ m_I1) (hX : ∀ r, r < 24 → Rok (X r)) (hD : DTT F0 n X) (hb : ∀ id, id < 600 → F0 (n + 7) id = bnd X id) : ∀ (fuel x7 : Nat) (F : MF) (S : RuS), rrun X fuel S = some z → x7 + fuel ≤ 1000000 → St F → fr RunP F0 F → RunC F S → L_81_41 n (x7 : Int) F (fun r F' => r = z ∧ fr RunP F0 F') m_no := by
  intro fuel
  induction fuel with
  | zero => intro x7 F S h; cases h
  | succ fuel ih =>
    rintro x7 F ⟨fs, vs, s, res⟩ h hx hS hfr hR
    have hD1 := frRun_dtt hn hD hfr
    have hb1 := frRun_b hn hb hfr
    have h9 : F 91 9 = res := hR.2.2.2.2.1
    unfold rrun at h
    cases fs with
    | nil =>
      rw [if_pos rfl] at h
      injection h with h
      have h4 : F 91 4 = 0 := hR.1
      refine b_81_41 hn hS ?_
      rw [h4]
      exact ⟨fun _ => ⟨fun h0 => absurd h0 (by decide), fun _ => ⟨h9.trans h, hfr⟩⟩, fun h0 => by omega⟩
    | cons a r =>
      obtain ⟨f, p, g⟩ := a
      rw [if_neg (fun e => by cases e)] at h
      have h4 : F 91 4 = ((r.length + 1 : Nat) : Int) := hR.1
      have hr4 : r.length + 1 ≤ 4 := hR.2.1
      obtain ⟨h7, h8, hvar, hf, hpl, hlow⟩ := hR.2.2.2.2.2
      change F 91 7 = (f : Int) at h7
      change F 91 8 = (p : Int) at h8
      change f < 3 at hf
      change p ≤ 40000 at hpl
      change lowF F r at hlow
      have hS1 : St (m_up F 91 8 ((p + 1 : Nat) : Int)) := hS.fld kd_91 rk_6_8
      have hC := (hD1.2 f hf).2.1
      have hlen := (Fw_len hX hf).2.2.1
      cases e : rst X ((f, p, g) :: r, vs, s, res) with
      | none => rw [e] at h; cases h
      | some S' =>
        rw [e] at h
        change rrun X fuel S' = some z at h
        have e' : rsw X (wrd X f p) f p g r vs s res = some S' := e
        have next : ∀ F', St F' → RunC F' S' ∧ fr RunP (m_up F 91 8 ((p + 1 : Nat) : Int)) F' → (-2147483648 ≤ (x7 : Int) + 1 ∧ (x7 : Int) + 1 < 2147483648) ∧ L_81_41 n ((x7 : Int) + 1) F' (fun r F' => r = z ∧ fr RunP F0 F') m_no := by
          rintro F' hS' ⟨k1, k2⟩
          refine ⟨by omega, ?_⟩
          rw [show (x7 : Int) + 1 = ((x7 + 1 : Nat) : Int) by omega]
          exact ih (x7 + 1) F' S' h (by omega) hS' ((hfr.up (by unfold RunP; omega)).tr k2) k1
        refine b_81_41 hn hS ⟨fun _ => ⟨fun _ => ?_, fun h0 => absurd (by rw [h4]; omega) h0⟩, fun h0 => absurd (by omega) h0⟩
        have hCw : (prs (ks X f)).2.2.1 = Cw X f := rfl
        rw [hCw] at hC
        rw [h7, h8, Int.toNat_natCast, Int.toNat_natCast, hC.1, show (p : Int) + 1 = ((p + 1 : Nat) : Int) by omega]
        refine ⟨by omega, fun c => ?_, fun c => ?_⟩
        · have hp : p < (Cw X f).length := by omega
          have ew : wrd X f p = gx (Cw X f) p := if_pos hp
          rw [ew] at e'
          rw [hC.2 p hp]
          have h32 := (Fw_len hX hf).2.2.2 p hp
          have hR1 : RunC (m_up F 91 8 ((p + 1 : Nat) : Int)) ((f, p + 1, g) :: r, vs, s, res) := hR.pl (by omega)
          have hD2 := frRun_dtt hn hD1 (fr.rf.up (i := 8) (v := ((p + 1 : Nat) : Int)) (show RunP 91 by unfold RunP; omega))
          have hb2 := frRun_b hn hb1 (fr.rf.up (i := 8) (v := ((p + 1 : Nat) : Int)) (show RunP 91 by unfold RunP; omega))
          rw [g198 h32]
          exact ⟨by omega, by omega, fun c1 => CaV.on (s_86 hn hS1 hX hb2 hp rfl hR1 c1 e') next, fun c1 => CaV.on (s_87 hn hS1 hX hD2 hb2 hp rfl hR1 c1 e') next⟩
        · have ew : wrd X f p = 5 := if_neg (by omega)
          rw [ew, rsw5] at e'
          obtain ⟨l, rfl⟩ := rlv_some e'
          have e5 : ∀ F : MF, g_198 F 5 = 5 := fun F => by rw [g198 (by decide)]; decide
          rw [e5]
          refine ⟨by omega, fun _ => ?_, fun c1 => absurd (by decide) c1⟩
          have v5 : (m_up F 91 8 ((p + 1 : Nat) : Int)) 91 5 = (vs.length : Int) := by rw [u_ne (Or.inr (by decide))]; exact hR.2.2.1.1
          have vA : AL ((m_up F 91 8 ((p + 1 : Nat) : Int)) 93) vs.reverse := by rw [up_row (by decide)]; exact hR.2.2.1.2.1
          have s5 := s_85 (a := (f, p, g)) (r := r) (s := s) (x := 0) hS1 (by rw [u_ne (Or.inr (by decide))]; exact h4) (by omega) v5 vA l (by rw [u_ne (Or.inr (by decide))]; exact hR.2.2.2.1) (lowF.cong r hlow (fun c i h => u_ne (Or.inl (by omega))))
          refine c_86 hn hS1 ?_
          rw [e5]
          exact ⟨fun _ => CaV.on s5 next, fun h => absurd h (by decide), fun h => absurd h (by decide), fun h => absurd h (by decide), fun h => absurd h (by decide), fun h => absurd h (by decide), fun h => absurd h (by decide), fun h => absurd rfl h.1⟩
/-- a run -/
theorem s_81 {v : Nat} {x y z : Int} (hn : n ∈ m_I1) (hS : St F) (hX : ∀ r, r < 24 → Rok (X r)) (hD : DTT F n X) (hb : ∀ id, id < 600 → F (n + 7) id = bnd X id) (hv : v < 600) (hx : fix' (Fw X (v / 200)) ((v % 200 : Nat) : Int) 0 ≠ -1) (h : rrun X 1000000 (ren X v 2 [] [y, x] 0 0) = some z) :
    C_81 n (v : Int) x y F (fun r F' => r = z ∧ fr RunP F F') m_no := by
  refine c_81 hn hS ?_
  obtain ⟨F1, e1⟩ : ∃ F1, F1 = m_up (m_up (m_up (m_up F 91 4 0) 91 5 0) 91 6 0) 91 9 0 := ⟨_, rfl⟩
  rw [← e1]
  have hS1 : St F1 := by rw [e1]; exact (((hS.fld kd_91 rk_6_4).fld kd_91 rk_6_5).fld kd_91 rk_6_6).fld kd_91 rk_6_9
  have r1 : fr RunP F F1 := by rw [e1]; exact (((fr.rf.up (by unfold RunP; omega)).up (by unfold RunP; omega)).up (by unfold RunP; omega)).up (by unfold RunP; omega)
  have hR1 : RunC F1 ([], [], 0, 0) := by
    refine ⟨?_, by decide, ⟨?_, fun i hi => absurd hi (Nat.not_lt_zero i), by decide⟩, ?_, ?_, trivial⟩
    · rw [e1, u_ne (Or.inr (by decide)), u_ne (Or.inr (by decide)), u_ne (Or.inr (by decide)), u_eq]; rfl
    · rw [e1, u_ne (Or.inr (by decide)), u_ne (Or.inr (by decide)), u_eq]; rfl
    · rw [e1, u_ne (Or.inr (by decide)), u_eq]; rfl
    · rw [e1, u_eq]
  refine CaV.on (s_82r hS1 hR1 (by decide)) ?_
  rintro F2 hS2 ⟨q1, q2⟩
  refine CaV.on (s_82r hS2 q1 (by show 1 < 800; decide)) ?_
  rintro F3 hS3 ⟨q3, q4⟩
  have r3 := (r1.tr q2).tr q4
  have hD3 := frRun_dtt hn hD r3
  refine CaV.on (s_84 (k := 2) (res := 0) hn hS3 hX hD3 hv hx q3.1 (by show 0 < 4; decide) q3.2.2.1.1 q3.2.2.1.2.1 q3.2.2.1.2.2 q3.2.2.2.1 q3.2.2.2.2.1 (Nat.le_refl 2) q3.2.2.2.2.2) ?_
  rintro F4 hS4 ⟨q5, q6⟩
  exact l_81r hn hX hD hb 1000000 0 F4 _ h (by decide) hS4 (r3.tr q6) q5
end Md3
