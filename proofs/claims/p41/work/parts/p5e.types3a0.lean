/-! TYPES, OF THE CLASS: exprs, calls, all files -/
section Ma0
variable {F : MF} {X : Nat → List Int} {f g n : Nat} {h : Nat → Nat} {E : List Int} {s t : Nat} {fi : Int} {st r : List (Nat × Int)} {a b : Nat × Int}
theorem n7_ne (hn : n ∈ m_I1) : ∀ c, TyP c → c ≠ n + 7 := fun c hc e => by
  unfold m_I1 at hn
  simp only [List.mem_cons, List.not_mem_nil, or_false] at hn
  unfold TyP at hc
  omega
theorem frTy_dtt {F' : MF} (hn : n ∈ m_I1) (hD : DTT F n X) (hf : fr TyP F F') : DTT F' n X := hD.fr hf (fun c hc => by
  unfold m_I1 at hn
  simp only [List.mem_cons, List.not_mem_nil, or_false] at hn
  unfold TyP at hc
  omega)
theorem frTy_b {F' : MF} (hn : n ∈ m_I1) (hb : ∀ id, id < 600 → F (n + 7) id = bnd X id) (hf : fr TyP F F') : ∀ id, id < 600 → F' (n + 7) id = bnd X id := fun id hid => by
  rw [hf (n + 7) (fun hc => n7_ne hn _ hc rfl)]
  exact hb id hid
/-- with as many parameters, their tokens -/
theorem ppar_tok {v k : Nat} (hX : ∀ r, r < 24 → Rok (X r)) (hv : v < 600) (hk : 0 < k) (hp : ppar X v = (k : Int)) : ∀ i, i < k → v + 2 + 2 * i < 600 ∧ v % 200 + 2 + 2 * i < (toks X (v / 200)).length ∧ kn (ks X (v / 200)) (v % 200 + 2 + 2 * i) = 0 := by
  intro i hi
  unfold ppar at hp
  by_cases e : fix' (Fw X (v / 200)) ((v % 200 : Nat) : Int) 0 = -1
  · rw [if_pos e] at hp; omega
  · rw [if_neg e] at hp
    have hr := (fix_rng (Fw X (v / 200)) ((v % 200 : Nat) : Int) 0).resolve_left e
    have hi2 : (fix' (Fw X (v / 200)) ((v % 200 : Nat) : Int) 0).toNat < (Fw X (v / 200)).length := by omega
    rw [ge_map hi2] at hp
    have hat : ∀ (L : FF) (t : Int) (i0 : Nat) (j : Nat), fix' L t i0 = ((i0 + j : Nat) : Int) → ∃ hj : j < L.length, (L[j]'hj).1 = t := by
      intro L
      induction L with
      | nil => intro t i0 j h; change (-1 : Int) = _ at h; omega
      | cons e L ih =>
        intro t i0 j h
        change (if e.1 = t then (i0 : Int) else fix' L t (i0 + 1)) = _ at h
        by_cases e1 : e.1 = t
        · rw [if_pos e1] at h
          obtain rfl : j = 0 := by omega
          exact ⟨by rw [List.length_cons]; omega, e1⟩
        · rw [if_neg e1] at h
          have h2 := (fix_rng L t (i0 + 1))
          cases j with
          | zero => omega
          | succ j =>
            obtain ⟨h3, h4⟩ := ih t (i0 + 1) j (by rw [h]; omega)
            exact ⟨by rw [List.length_cons]; omega, h4⟩
    obtain ⟨hj, h1⟩ := hat (Fw X (v / 200)) ((v % 200 : Nat) : Int) 0 (fix' (Fw X (v / 200)) ((v % 200 : Nat) : Int) 0).toNat (by omega)
    obtain ⟨p, m, q, e0, e1, e2, -, -, -, e6⟩ := Fw_tok hX (f := v / 200) (by omega) (List.getElem_mem hj)
    have hp2 : p = v % 200 := by rw [h1] at e1; omega
    have hm : m = k := by
      rw [e2] at hp
      omega
    subst hp2 hm
    have h6 := e6 (i + 1) (by omega)
    rw [show v % 200 + 2 * (i + 1) = v % 200 + 2 + 2 * i by omega] at h6
    have h7 := kn_tok (by rw [h6]; decide : kn (ks X (v / 200)) (v % 200 + 2 + 2 * i) ≠ 24)
    have := toks_len hX (f := v / 200) (by omega)
    exact ⟨by omega, h7, h6⟩
theorem alT_len (q : TQ) : (alT q s t fi).2.length ≤ q.2.length + 1 := ale_len
theorem argT_len : ∀ (l : List (Nat × Int)) (v i : Nat) (q : TQ), (argT v i l q).2.length ≤ q.2.length + l.length
  | [], v, i, q => Nat.le_refl _
  | a :: l, v, i, q => by
    have h1 := argT_len l v (i + 1) (alT q a.1 (v + 2 + 2 * i) a.2)
    have h2 := alT_len (s := a.1) (t := v + 2 + 2 * i) (fi := a.2) q
    show (argT v (i + 1) l (alT q a.1 (v + 2 + 2 * i) a.2)).2.length ≤ q.2.length + (a :: l).length
    rw [List.length_cons]
    omega
theorem s_133 {k : Nat} (hn : n ∈ m_I1) (hS : St F) (hX : ∀ r, r < 24 → Rok (X r)) (hD : DTT F n X) (hb : ∀ id, id < 600 → F (n + 7) id = bnd X id) (ht : 200 * f + t < 600) (hT : TyS F (h, st, E)) (hk : k ≤ st.length) (hE : E.length + k < 1200) (hst : st.length < 200) (hlo : ∀ a ∈ st, a.1 < 602) :
    C_133 n ((200 * f + t : Nat) : Int) (k : Int) F (fun F' => TyS F' ((callT X f t (k : Int) (st.take k).reverse (h, E)).1, (slo X f t, ((200 * f + t : Nat) : Int)) :: st.drop k, (callT X f t (k : Int) (st.take k).reverse (h, E)).2) ∧ fr TyP F F') m_no := by
  have br := bnd_rng hX (200 * f + t) ht
  have top : ∀ {F1 : MF} {h1 : Nat → Nat} {E1 : List Int}, TyS F1 (h1, st, E1) → F1 84 3 = (st.length : Int) := fun h => h.2.1.1
  have las : ((st.take k).reverse).length = k := by rw [List.length_reverse, List.length_take]; omega
  have g437 : ∀ F1 : MF, g_437 F1 0 ((st.length : Int) - (k : Int)) = ((st.length - k : Nat) : Int) := fun F1 => by
    unfold g_437
    split <;> omega
  -- behind the args
  have fin : ∀ (F1 : MF) (h1 : Nat → Nat) (E1 : List Int), St F1 → TyS F1 (h1, st, E1) → fr TyP F F1 → o_135 (m_up F1 84 3 ((st.length - k : Nat) : Int)) n ((200 * f + t : Nat) : Int) ∧ C_134 (g_135 (m_up F1 84 3 ((st.length - k : Nat) : Int)) n ((200 * f + t : Nat) : Int)) ((200 * f + t : Nat) : Int) (m_up F1 84 3 ((st.length - k : Nat) : Int)) (fun F' => TyS F' (h1, (slo X f t, ((200 * f + t : Nat) : Int)) :: st.drop k, E1) ∧ fr TyP F F') m_no := by
    intro F1 h1 E1 hS1 hT1 hf1
    have hf2 : fr TyP F (m_up F1 84 3 ((st.length - k : Nat) : Int)) := hf1.up (Or.inl rfl)
    have q := q_135 (F := m_up F1 84 3 ((st.length - k : Nat) : Int)) (n := n) (f := f) (t := t) hX (frTy_b hn hb hf2) ht
    rw [q.1]
    refine ⟨q.2, CaV.on (s_134 (x := (h1, st.drop k, E1)) (hS1.fld kd_84 rk_10_3) (hT1.pops hk) (by show (st.drop k).length < 200; rw [List.length_drop]; omega)) ?_⟩
    rintro F2 hS2 ⟨k1, k2⟩
    exact ⟨k1, hf2.tr k2⟩
  -- the args
  have args : ∀ v : Nat, (∀ i, i < k → v + 2 + 2 * i < 602) → ∀ (d i : Nat) (F1 : MF) (h1 : Nat → Nat) (E1 : List Int), i + d = k → St F1 → TyS F1 (h1, st, E1) → fr TyP F F1 → E1.length + d < 1200 →
      L_133_53 n ((200 * f + t : Nat) : Int) (k : Int) (v : Int) ((st.length - k : Nat) : Int) (i : Int) F1 (fun F' => TyS F' ((argT v i ((st.take k).reverse.drop i) (h1, E1)).1, (slo X f t, ((200 * f + t : Nat) : Int)) :: st.drop k, (argT v i ((st.take k).reverse.drop i) (h1, E1)).2) ∧ fr TyP F F') m_no := by
    intro v hv d
    induction d with
    | zero =>
      intro i F1 h1 E1 hi hS1 hT1 hf1 hE1
      rw [List.drop_eq_nil_of_le (by omega)]
      exact b_133_53 hn hS1 ⟨fun h => by omega, fun _ => fin F1 h1 E1 hS1 hT1 hf1⟩
    | succ d ih =>
      intro i F1 h1 E1 hi hS1 hT1 hf1 hE1
      have hi2 : i < ((st.take k).reverse).length := by omega
      have ei : (st.take k).reverse.drop i = ((st.take k).reverse)[i] :: (st.take k).reverse.drop (i + 1) := List.drop_eq_getElem_cons hi2
      have eg : ∀ g : Nat × Int → Int, gx ((st.map g).reverse) (st.length - k + i) = g (((st.take k).reverse)[i]) := fun g => by
        have e1 : (st.map g).reverse = ((st.drop k).map g).reverse ++ ((st.take k).map g).reverse := by
          rw [← List.reverse_append, ← List.map_append, List.take_append_drop]
        have l1 : (((st.drop k).map g).reverse).length = st.length - k := by rw [List.length_reverse, List.length_map, List.length_drop]
        rw [e1, gx_app, if_neg (by omega), l1, show st.length - k + i - (st.length - k) = i by omega, ← List.map_reverse]
        unfold gx
        rw [List.getD_eq_getElem?_getD, List.getElem?_map, List.getElem?_eq_getElem hi2]
        rfl
      have lr : ∀ g : Nat × Int → Int, ((st.map g).reverse).length = st.length := fun g => by rw [List.length_reverse, List.length_map]
      have v86 := hT1.2.1.2.1 (st.length - k + i) (by rw [lr]; omega)
      have v87 := hT1.2.1.2.2 (st.length - k + i) (by rw [lr]; omega)
      change F1 86 (st.length - k + i) = gx ((st.map (fun a => (a.1 : Int))).reverse) (st.length - k + i) at v86
      change F1 87 (st.length - k + i) = gx ((st.map (fun a => a.2)).reverse) (st.length - k + i) at v87
      rw [eg] at v86 v87
      have hin : ((st.take k).reverse)[i] ∈ st := List.mem_of_mem_take (List.mem_reverse.mp (List.getElem_mem hi2))
      rw [ei]
      refine b_133_53 hn hS1 ⟨fun _ => ?_, fun h => by omega⟩
      rw [top hT1, show ((st.length - k : Nat) : Int) + (i : Int) = ((st.length - k + i : Nat) : Int) by omega, Int.toNat_natCast, v86, v87, show (v : Int) + 2 + 2 * (i : Int) = ((v + 2 + 2 * i : Nat) : Int) by omega]
      have hvi := hv i (by omega)
      refine ⟨by omega, fun _ => ⟨by omega, by omega, by omega, by omega, by omega, by omega, by omega, ?_⟩, fun h => by omega⟩
      refine CaV.on (hT1.al hS1 (by omega) (hlo _ hin) hvi) ?_
      rintro F2 hS2 ⟨k1, k2⟩
      rw [show (i : Int) + 1 = ((i + 1 : Nat) : Int) by omega]
      have hl : ∀ q : TQ, q = alT (h1, E1) (((st.take k).reverse)[i]).1 (v + 2 + 2 * i) (((st.take k).reverse)[i]).2 → q.2.length + d < 1200 := fun q e => by
        have := alT_len (s := (((st.take k).reverse)[i]).1) (t := v + 2 + 2 * i) (fi := (((st.take k).reverse)[i]).2) (h1, E1)
        rw [← e] at this
        change q.2.length ≤ E1.length + 1 at this
        omega
      exact ⟨by omega, ih (i + 1) F2 _ _ (by omega) hS2 k1 (hf1.tr k2) (hl _ rfl)⟩
  refine c_133 hn hS ?_
  rw [Int.toNat_natCast, hb _ ht, top hT, g437]
  unfold callT
  refine ⟨by omega, by omega, fun e => ?_, fun e => ?_⟩
  · rw [e, if_pos rfl]
    exact b_133_44 hn hS ⟨fun _ => fin F h E hS hT fr.rf, fun h => absurd rfl h⟩
  · obtain ⟨v, hv⟩ : ∃ v : Nat, bnd X (200 * f + t) = (v : Int) := ⟨(bnd X (200 * f + t)).toNat, by omega⟩
    rw [if_neg e, hv, Int.toNat_natCast]
    refine CaI.on (s_19 hn hS hX hD (by omega)) ?_
    rintro r F1 hS1 ⟨rfl, rfl⟩
    refine ⟨fun e2 => ?_, fun e2 => ?_⟩
    · rw [if_pos e2]
      refine b_133_44 hn hS1 ⟨fun h => by omega, fun _ => ?_⟩
      exact args v (fun i hi => by have := (ppar_tok hX (by omega) (by omega) e2 i hi).1; omega) k 0 F1 h E (by omega) hS1 hT fr.rf hE
    · rw [if_neg e2]
      have hT' := hT
      obtain ⟨c1, ⟨c2, c3, c4⟩, c5, c6⟩ := hT'
      refine CaV.on (s_137 hS1 c5 c6 (by show E.length < 1200; omega)) ?_
      rintro F2 hS2 ⟨d1, d2, d3, d4⟩
      exact fin F2 h _ hS2 ⟨c1.cong (d4 85 (by decide)), ⟨by rw [d3 3 (by decide)]; exact c2, by rw [d4 86 (by decide)]; exact c3, by rw [d4 87 (by decide)]; exact c4⟩, d1, d2⟩ (d4.mo (fun c hc => by unfold TyP; omega))
theorem TyS.al2 (hS : St F) (hT : TyS F (h, st, E)) (hl : E.length < 1200) (hs : s < 602) (ht : t < 602) : C_136 (s : Int) (t : Int) fi F (fun F' => TyS F' ((alT (h, E) s t fi).1, st, (alT (h, E) s t fi).2) ∧ (F' 86 = F 86 ∧ F' 87 = F 87) ∧ fr TyP F F') m_no := by
  obtain ⟨h1, ⟨h2, h3, h4⟩, h5, h6⟩ := hT
  refine CaV.on (s_136 hS h1 h5 h6 hl hs ht) ?_
  rintro F1 hS1 ⟨k1, k2, k3, k4, k5⟩
  refine ⟨⟨k1, ⟨by rw [k4 3 (by decide)]; exact h2, by rw [k5 86 (by decide)]; exact h3, by rw [k5 87 (by decide)]; exact h4⟩, k2, k3⟩, ⟨k5 86 (by decide), k5 87 (by decide)⟩, k5.mo (fun c hc => by unfold TyP; omega)⟩
/-- a word of an expr -/
theorem s_132 {fn o e k1 : Nat} (hn : n ∈ m_I1) (hS : St F) (hX : ∀ r, r < 24 → Rok (X r)) (hD : DTT F n X) (hb : ∀ id, id < 600 → F (n + 7) id = bnd X id) (hf : f < 3) (hT : TyS F (h, st, E)) (hE : E.length + st.length + 2 < 1200) (hst : st.length < 199) (hlo : ∀ a ∈ st, a.1 < 602) (ho : o = 14 ∨ o = 15 ∨ o = 16 ∨ o = 17 ∨ o = 18) (ht : t < 256) (hw : mk o t e < 2147483648) (htk : (o = 14 ∧ kn (ks X f) t = 0) ∨ o = 15 → 200 * f + t < 600) (hk : SK1 st.length (mk o t e) k1) :
    C_132 n (f : Int) (mk o t e) F (fun F' => TyS F' (tstep X f fn (mk o t e) (h, st, E)) ∧ fr TyP F F') m_no := by
  have hw0 : 0 ≤ mk o t e ∧ mk o t e < 2147483648 := ⟨by unfold mk; omega, hw⟩
  have w1 := wo_mk (o := o) (t := t) (e := e) (by omega)
  have w2 := wt_mk (o := o) (t := t) (e := e) (by omega) ht
  have w3 := we_mk (o := o) (t := t) (e := e) (by omega) ht
  have ew : ∀ F, g_198 F (mk o t e) = (o : Int) := fun F => by rw [g198 hw0, w1]
  have et : ∀ F, g_199 F (mk o t e) = (t : Int) := fun F => by rw [g199 hw0, w2]
  have ee : ∀ F, g_200 F (mk o t e) = (e : Int) := fun F => by rw [g200 hw0, w3]
  have hG := (hD.2 f hf).1
  have g104 := q_104 hG hf t
  have o104 := ob_104 hG hX hf t
  refine c_132 hn hS ?_
  rw [ew, et, ee, Int.toNat_natCast, g104, show (f : Int) * 200 + (t : Int) = ((200 * f + t : Nat) : Int) by omega]
  refine ⟨by omega, by omega, by omega, o104, fun k14 => ?_, fun k14 => ⟨fun k15 => ?_, fun k15 => ?_⟩⟩
  · have ts : tstep X f fn (mk o t e) (h, st, E) = (h, ((if kn (ks X f) t = 1 then 600 else if kn (ks X f) t = 0 then slo X f t else 601), ((200 * f + t : Nat) : Int)) :: st, E) := by
      unfold tstep
      rw [w1, w2, Int.toNat_natCast, if_pos k14]
    rw [ts]
    refine ⟨fun e1 => ?_, fun e1 => ⟨fun e0 => ?_, fun e0 => ?_⟩⟩
    · rw [if_pos e1]
      exact s_134 (sl := 600) hS hT (by show st.length < 200; omega)
    · have q := q_135 (F := F) (n := n) (f := f) (t := t) hX hb (htk (Or.inl ⟨by omega, e0⟩))
      rw [if_neg e1, if_pos e0, q.1]
      exact ⟨q.2, s_134 hS hT (by show st.length < 200; omega)⟩
    · rw [if_neg e1, if_neg e0]
      exact s_134 (sl := 601) hS hT (by show st.length < 200; omega)
  · have hkk : e ≤ st.length := by
      unfold SK1 at hk
      rw [w1, w3] at hk
      rcases hk with h | h | h | h | ⟨-, m, h1, h2, -⟩ | h | h
      · omega
      · omega
      · omega
      · omega
      · omega
      · omega
      · omega
    have ts : tstep X f fn (mk o t e) (h, st, E) = ((callT X f t (e : Int) (st.take e).reverse (h, E)).1, (slo X f t, ((200 * f + t : Nat) : Int)) :: st.drop e, (callT X f t (e : Int) (st.take e).reverse (h, E)).2) := by
      unfold tstep
      rw [w1, w2, w3, Int.toNat_natCast, Int.toNat_natCast, if_neg k14, if_pos k15]
    rw [ts]
    exact s_133 hn hS hX hD hb (htk (Or.inr (by omega))) hT hkk (by omega) (by omega) hlo
  · have hpos : 1 ≤ st.length ∧ (o = 17 → 2 ≤ st.length) := by
      unfold SK1 at hk
      rw [w1] at hk
      omega
    cases st with
    | nil => exact absurd hpos.1 (by decide)
    | cons a r =>
      obtain ⟨t1, t2, t3⟩ := hT.top
      have ha := hlo a (List.mem_cons_self)
      rw [List.length_cons] at hE hst hpos
      have ts0 : tstep X f fn (mk o t e) (h, a :: r, E) = (if o = 18 then (h, (a.1, ((200 * f + t : Nat) : Int)) :: r, E) else if o = 16 then ((alT (h, E) a.1 601 a.2).1, (601, ((200 * f + t : Nat) : Int)) :: r, (alT (h, E) a.1 601 a.2).2) else (match r with
          | [] => (h, a :: r, E)
          | b :: r1 => if kn (ks X f) t = 17 then ((alT (h, E) a.1 b.1 a.2).1, (601, b.2) :: r1, (alT (h, E) a.1 b.1 a.2).2)
            else ((alT (alT (h, E) b.1 600 b.2) a.1 600 a.2).1, ((if kn (ks X f) t = 18 then 601 else 600), b.2) :: r1, (alT (alT (h, E) b.1 600 b.2) a.1 600 a.2).2))) := by
        unfold tstep
        rw [w1, w2, Int.toNat_natCast, if_neg k14, if_neg k15]
        show (if _ then _ else _) = _
        by_cases c1 : o = 18
        · rw [if_pos (by omega), if_pos c1]
        · rw [if_neg (by omega), if_neg c1]
          by_cases c2 : o = 16
          · rw [if_pos (by omega), if_pos c2]
          · rw [if_neg (by omega), if_neg c2, if_pos (by omega)]
            cases r <;> rfl
      have hn1 : ((r.length + 1 : Nat) : Int) - 1 = (r.length : Int) := by omega
      refine ⟨fun k18 => ⟨fun _ => ?_, fun h => absurd (by rw [t1]; omega) h⟩, fun k18 => ?_⟩
      · rw [t1, hn1, Int.toNat_natCast, ts0, if_pos (by omega)]
        refine ⟨by omega, by omega, ?_⟩
        have := hT.put a.1 ((200 * f + t : Nat) : Int)
        have e86 : m_up F 86 r.length (a.1 : Int) = F := by
          funext c i
          by_cases e3 : c = 86 ∧ i = r.length
          · rw [e3.1, e3.2, u_eq, t2]
          · rw [u_ne (by omega)]
        rw [e86] at this
        exact ⟨this, fr.rf.up (by unfold TyP; omega)⟩
      · refine b_132_129 hS ⟨fun k16 => ⟨fun _ => ?_, fun h => absurd (by rw [t1]; omega) h⟩, fun k16 => ?_⟩
        · rw [t1, hn1, Int.toNat_natCast, t2, t3, ts0, if_neg (by omega), if_pos (by omega)]
          refine ⟨by omega, by omega, by omega, by omega, ?_⟩
          refine CaV.on (TyS.al (t := 601) hS hT (by omega) ha (by decide)) ?_
          rintro F1 hS1 ⟨k1, k2⟩
          rw [k1.top.1, hn1, Int.toNat_natCast]
          exact ⟨by omega, by omega, by omega, by omega, k1.put 601 _, (k2.up (by unfold TyP; omega)).up (by unfold TyP; omega)⟩
        · refine b_132_202 hS ⟨fun k17 => ?_, fun h => by omega⟩
          have h2 := hpos.2 (by omega)
          cases r with
          | nil => exact absurd h2 (by decide)
          | cons b r1 =>
            rw [List.length_cons] at t1 t2 t3 hE hst h2 hn1
            have hbt := hlo b (List.mem_cons_of_mem _ (List.mem_cons_self))
            have hT1 : TyS (m_up F 84 3 ((r1.length + 1 : Nat) : Int)) (h, b :: r1, E) := by have := hT.pop; rw [List.length_cons] at this; exact this
            have hS1 : St (m_up F 84 3 ((r1.length + 1 : Nat) : Int)) := hS.fld kd_84 rk_10_3
            obtain ⟨u1, u2, u3⟩ := hT1.top
            rw [u_ne (Or.inl (by decide))] at u2 u3
            have hfp : fr TyP F (m_up F 84 3 ((r1.length + 1 : Nat) : Int)) := fr.rf.up (Or.inl rfl)
            have hn2 : ((r1.length + 1 : Nat) : Int) - 1 = (r1.length : Int) := by omega
            -- the result
            have fin : ∀ (F1 : MF) (h1 : Nat → Nat) (E1 : List Int), St F1 → TyS F1 (h1, b :: r1, E1) → fr TyP F F1 → L_132_324 (kn (ks X f) t) F1 (fun F' => TyS F' (h1, ((if kn (ks X f) t = 17 ∨ kn (ks X f) t = 18 then 601 else 600), b.2) :: r1, E1) ∧ fr TyP F F') m_no := by
              intro F1 h1 E1 hS1 hT1 hf1
              obtain ⟨v1, v2, v3⟩ := hT1.top
              have put : ∀ v : Nat, TyS (m_up F1 86 r1.length (v : Int)) (h1, (v, b.2) :: r1, E1) := fun v => by
                have := hT1.put v b.2
                have e87 : m_up (m_up F1 86 r1.length (v : Int)) 87 r1.length b.2 = m_up F1 86 r1.length (v : Int) := by
                  funext c i
                  by_cases e3 : c = 87 ∧ i = r1.length
                  · rw [e3.1, e3.2, u_eq, u_ne (Or.inl (by decide)), v3]
                  · rw [u_ne (by omega)]
                rwa [e87] at this
              refine b_132_324 hS1 ?_
              rw [v1, hn2, Int.toNat_natCast]
              refine ⟨by omega, fun c1 => ⟨by omega, ?_, hf1.up (by unfold TyP; omega)⟩, fun c1 => ⟨fun c2 => ⟨by omega, ?_, hf1.up (by unfold TyP; omega)⟩, fun c2 => ⟨by omega, ?_, hf1.up (by unfold TyP; omega)⟩⟩⟩
              · rw [if_pos (Or.inl c1)]; exact put 601
              · rw [if_pos (Or.inr c2)]; exact put 601
              · rw [if_neg (by omega)]; exact put 600
            rw [t1, hn1, hn2, Int.toNat_natCast, Int.toNat_natCast, t2, t3, u2, u3, ts0, if_neg (by omega), if_neg (by omega)]
            refine ⟨fun _ => ⟨by omega, fun c17 => ⟨by omega, by omega, by omega, by omega, ?_⟩, fun c17 => ⟨by omega, by omega, by omega, by omega, ?_⟩⟩, fun h => absurd (by omega) h⟩
            · show C_136 _ _ _ _ (fun F17 => L_132_324 (kn (ks X f) t) F17 (fun F' => TyS F' (if kn (ks X f) t = 17 then _ else _) ∧ _) m_no) m_no
              rw [if_pos c17]
              refine CaV.on (TyS.al hS1 hT1 (by omega) ha hbt) ?_
              rintro F2 hS2 ⟨d1, d2⟩
              have := fin F2 _ _ hS2 d1 (hfp.tr d2)
              rw [if_pos (Or.inl c17)] at this
              exact this
            · show C_136 _ _ _ _ (fun F8 => _ ∧ _ ∧ C_136 _ _ _ _ (fun F12 => L_132_324 (kn (ks X f) t) F12 (fun F' => TyS F' (if kn (ks X f) t = 17 then _ else _) ∧ _) m_no) m_no) m_no
              rw [if_neg c17]
              refine CaV.on (TyS.al2 (t := 600) hS1 hT1 (by omega) hbt (by decide)) ?_
              rintro F2 hS2 ⟨d1, ⟨d3, d4⟩, d2⟩
              have hF2 : fr TyP F F2 := hfp.tr d2
              obtain ⟨v1, -, -⟩ := d1.top
              have hE2 : ∀ q : TQ, q = alT (h, E) b.1 600 b.2 → q.2.length < 1200 := fun q e => by
                have := alT_len (s := b.1) (t := 600) (fi := b.2) (h, E)
                rw [← e] at this
                change q.2.length ≤ E.length + 1 at this
                omega
              rw [v1, Int.toNat_natCast, d3, d4, u_ne (Or.inl (by decide)), u_ne (Or.inl (by decide)), t2, t3]
              refine ⟨by omega, by omega, ?_⟩
              refine CaV.on (TyS.al (t := 600) hS2 d1 (hE2 _ rfl) ha (by decide)) ?_
              rintro F3 hS3 ⟨c1, c2⟩
              have := fin F3 _ _ hS3 c1 (hF2.tr c2)
              have ce : (if kn (ks X f) t = 17 ∨ kn (ks X f) t = 18 then 601 else 600) = (if kn (ks X f) t = 18 then 601 else 600) := by
                by_cases e1 : kn (ks X f) t = 18
                · rw [if_pos e1, if_pos (Or.inr e1)]
                · rw [if_neg e1, if_neg (by omega)]
              rw [ce] at this
              exact this
end Ma0
