/-! TYPES, OF THE CLASS: words -/
section M9z
variable {F : MF} {X : Nat → List Int} {f g n : Nat} {h : Nat → Nat} {E : List Int} {s t : Nat} {fi : Int} {st r : List (Nat × Int)} {a : Nat × Int}
theorem q_104 (hG : GaC F n f X) (hf : f < 3) (k : Nat) : g_104 F n (k : Int) = kn (ks X f) k := by
  unfold g_104
  have hc : F n 8 = ((toks X f).length : Int) := hG.1.1
  rw [if_neg (by omega), hc, Int.toNat_natCast]
  by_cases e : k < (toks X f).length
  · rw [if_pos (by omega)]
    exact (gac_tok hG e).1
  · rw [if_neg (by omega), kn_end (by rw [ks_len']; omega)]
theorem ob_104 (hG : GaC F n f X) (hX : ∀ r, r < 24 → Rok (X r)) (hf : f < 3) (k : Nat) : o_104 F n (k : Int) := by
  have hc : F n 8 = ((toks X f).length : Int) := hG.1.1
  have := toks_len hX hf
  unfold o_104
  rw [hc]
  exact ⟨fun _ => trivial, fun _ => ⟨fun _ => ⟨by omega, trivial⟩, fun _ => trivial⟩⟩
theorem slo_lt (hX : ∀ r, r < 24 → Rok (X r)) (ht : 200 * f + t < 600) : slo X f t < 600 := by
  have := bnd_rng hX (200 * f + t) ht
  unfold slo
  split <;> omega
theorem q_135 (hX : ∀ r, r < 24 → Rok (X r)) (hb : ∀ id, id < 600 → F (n + 7) id = bnd X id) (ht : 200 * f + t < 600) : g_135 F n ((200 * f + t : Nat) : Int) = (slo X f t : Int) ∧ o_135 F n ((200 * f + t : Nat) : Int) := by
  have := bnd_rng hX (200 * f + t) ht
  refine ⟨?_, by omega, fun _ => trivial, fun _ => trivial⟩
  unfold g_135 slo
  rw [Int.toNat_natCast, hb _ ht]
  by_cases e : bnd X (200 * f + t) = -1
  · rw [if_pos e, if_pos e]
  · rw [if_neg e, if_neg e]; omega
theorem ale_len : (ale h s t fi E).length ≤ E.length + 1 := by
  unfold ale
  split
  · omega
  · split
    · omega
    · split
      · omega
      · rw [List.length_append, List.length_singleton]; omega
theorem UFc.cong {F' : MF} (hU : UFc F h) (e : F' 85 = F 85) : UFc F' h := by
  obtain ⟨k1, k2, dp, m, hm, hu⟩ := hU
  refine ⟨k1, k2, dp, m, hm, fun s hs => ?_⟩
  rw [e]
  exact hu s hs
theorem TyS.al (hS : St F) (hT : TyS F (h, st, E)) (hl : E.length < 1200) (hs : s < 602) (ht : t < 602) : C_136 (s : Int) (t : Int) fi F (fun F' => TyS F' ((alT (h, E) s t fi).1, st, (alT (h, E) s t fi).2) ∧ fr TyP F F') m_no := by
  obtain ⟨h1, ⟨h2, h3, h4⟩, h5, h6⟩ := hT
  refine CaV.on (s_136 hS h1 h5 h6 hl hs ht) ?_
  rintro F1 hS1 ⟨k1, k2, k3, k4, k5⟩
  refine ⟨⟨k1, ⟨by rw [k4 3 (by decide)]; exact h2, by rw [k5 86 (by decide)]; exact h3, by rw [k5 87 (by decide)]; exact h4⟩, k2, k3⟩, k5.mo (fun c hc => by unfold TyP; omega)⟩
theorem TyS.top (hT : TyS F (h, a :: r, E)) : F 84 3 = ((r.length + 1 : Nat) : Int) ∧ F 86 r.length = (a.1 : Int) ∧ F 87 r.length = a.2 := by
  obtain ⟨-, ⟨h2, h3, h4⟩, -⟩ := hT
  have l1 : ((r.map (fun a => (a.1 : Int))).reverse).length = r.length := by rw [List.length_reverse, List.length_map]
  have l2 : ((r.map (fun a => a.2)).reverse).length = r.length := by rw [List.length_reverse, List.length_map]
  rw [List.map_cons, List.reverse_cons] at h3 h4
  refine ⟨h2, ?_, ?_⟩
  · rw [h3 r.length (by rw [List.length_append, l1, List.length_singleton]; omega), gx_app, if_neg (by omega), l1, Nat.sub_self]
    rfl
  · rw [h4 r.length (by rw [List.length_append, l2, List.length_singleton]; omega), gx_app, if_neg (by omega), l2, Nat.sub_self]
    rfl
theorem TyS.pops (hT : TyS F (h, st, E)) {k : Nat} (hk : k ≤ st.length) : TyS (m_up F 84 3 ((st.length - k : Nat) : Int)) (h, st.drop k, E) := by
  obtain ⟨h1, ⟨h2, h3, h4⟩, h5, h6⟩ := hT
  have e1 : ∀ g : Nat × Int → Int, (st.map g).reverse = ((st.drop k).map g).reverse ++ ((st.take k).map g).reverse := fun g => by
    rw [← List.reverse_append, ← List.map_append, List.take_append_drop]
  refine ⟨h1.cong (up_row (by decide)), ⟨by rw [u_eq, List.length_drop], ?_, ?_⟩, by rw [u_ne (Or.inr (by decide))]; exact h5, by rw [up_row (by decide)]; exact h6⟩
  · rw [up_row (by decide)]
    change AL (F 86) (st.map (fun a => (a.1 : Int))).reverse at h3
    rw [e1] at h3
    exact h3.pre
  · rw [up_row (by decide)]
    change AL (F 87) (st.map (fun a => a.2)).reverse at h4
    rw [e1] at h4
    exact h4.pre
theorem TyS.pop (hT : TyS F (h, a :: r, E)) : TyS (m_up F 84 3 (r.length : Int)) (h, r, E) := by
  have := hT.pops (k := 1) (by rw [List.length_cons]; omega)
  rw [List.length_cons, Nat.add_sub_cancel] at this
  exact this
theorem TyS.put (hT : TyS F (h, a :: r, E)) (v : Nat) (u : Int) : TyS (m_up (m_up F 86 r.length (v : Int)) 87 r.length u) (h, (v, u) :: r, E) := by
  obtain ⟨h1, ⟨h2, h3, h4⟩, h5, h6⟩ := hT
  have l1 : ((r.map (fun a => (a.1 : Int))).reverse).length = r.length := by rw [List.length_reverse, List.length_map]
  have l2 : ((r.map (fun a => a.2)).reverse).length = r.length := by rw [List.length_reverse, List.length_map]
  rw [List.map_cons, List.reverse_cons] at h3 h4
  refine ⟨h1.cong (by rw [up_row (by decide), up_row (by decide)]), ⟨by rw [u_ne (Or.inl (by decide)), u_ne (Or.inl (by decide))]; exact h2, ?_, ?_⟩, by rw [u_ne (Or.inl (by decide)), u_ne (Or.inl (by decide))]; exact h5, by rw [up_row (by decide), up_row (by decide)]; exact h6⟩
  · rw [List.map_cons, List.reverse_cons, up_row (by decide)]
    have := AL.up1 (v := (v : Int)) h3.pre
    rwa [l1] at this
  · rw [List.map_cons, List.reverse_cons]
    have h4' : AL (m_up F 86 r.length (v : Int) 87) (r.map (fun a => a.2)).reverse := by rw [up_row (by decide)]; exact h4.pre
    have := AL.up1 (v := u) h4'
    rwa [l2] at this
/-- a word of a statement -/
theorem s_131 {fn o e : Nat} (hn : n ∈ m_I1) (hS : St F) (hX : ∀ r, r < 24 → Rok (X r)) (hb : ∀ id, id < 600 → F (n + 7) id = bnd X id) (hf : f < 3) (hT : TyS F (h, st, E)) (hE : E.length < 1200) (hst : st.length < 200) (hlo : ∀ a ∈ st, a.1 < 602) (hfn : o = 10 → fn < 602) (ho : o < 14) (ht : t < 256) (hw : mk o t e < 2147483648) (htk : o = 7 ∨ o = 8 → 200 * f + t < 600)
    (hk : SK1 st.length (mk o t e) (if o = 7 ∨ o = 8 ∨ o = 9 ∨ o = 10 ∨ o = 11 then 0 else st.length)) {fnI' : Int} (hfI : o = 10 → fnI' = (fn : Int)) :
    C_131 n (f : Int) (mk o t e) fnI' F (fun F' => TyS F' (tstep X f fn (mk o t e) (h, st, E)) ∧ fr TyP F F') m_no := by
  have hw0 : 0 ≤ mk o t e ∧ mk o t e < 2147483648 := ⟨by unfold mk; omega, hw⟩
  have w1 := wo_mk (o := o) (t := t) (e := e) (by omega)
  have w2 := wt_mk (o := o) (t := t) (e := e) (by omega) ht
  have ew : ∀ F, g_198 F (mk o t e) = (o : Int) := fun F => by rw [g198 hw0, w1]
  have et : ∀ F, g_199 F (mk o t e) = (t : Int) := fun F => by rw [g199 hw0, w2]
  refine c_131 hn hS ?_
  rw [ew, et, show (f : Int) * 200 + (t : Int) = ((200 * f + t : Nat) : Int) by omega]
  refine ⟨by omega, by omega, fun e0 => ?_, fun e0 => ?_⟩
  · have hl0 : st = [] := by
      cases st with
      | nil => rfl
      | cons a r => rw [hT.top.1] at e0; omega
    have : tstep X f fn (mk o t e) (h, st, E) = (h, st, E) := by
      unfold tstep
      rw [w1, if_neg (by omega), if_neg (by omega), hl0]
    rw [this]
    exact ⟨hT, fr.rf⟩
  · cases st with
    | nil => exact absurd hT.2.1.1 e0
    | cons a r =>
      obtain ⟨t1, t2, t3⟩ := hT.top
      have ha := hlo a (List.mem_cons_self)
      have htp : ∀ {F1 : MF}, fr TyP F F1 → fr TyP F (m_up F1 84 3 (r.length : Int)) := fun k => k.up (by unfold TyP; omega)
      have ts : tstep X f fn (mk o t e) (h, a :: r, E) = if o = 7 ∨ o = 8 then ((alT (h, E) a.1 (slo X f t) a.2).1, r, (alT (h, E) a.1 (slo X f t) a.2).2) else if o = 10 then ((alT (h, E) a.1 fn a.2).1, r, (alT (h, E) a.1 fn a.2).2) else if o = 11 then ((alT (h, E) a.1 601 a.2).1, r, (alT (h, E) a.1 601 a.2).2) else if o = 9 then (h, r, E) else (h, a :: r, E) := by
        unfold tstep
        rw [w1, w2, Int.toNat_natCast, if_neg (by omega), if_neg (by omega)]
        show (if _ then _ else _) = _
        rw [if_neg (by omega), if_neg (by omega), if_neg (by omega)]
        by_cases c1 : o = 7 ∨ o = 8
        · rw [if_pos c1, if_pos (by omega)]
        · rw [if_neg c1, if_neg (by omega)]
          by_cases c2 : o = 10
          · rw [if_pos c2, if_pos (by omega)]
          · rw [if_neg c2, if_neg (by omega)]
            by_cases c3 : o = 11
            · rw [if_pos c3, if_pos (by omega)]
            · rw [if_neg c3, if_neg (by omega)]
              by_cases c4 : o = 9
              · rw [if_pos c4, if_pos (by omega)]
              · rw [if_neg c4, if_neg (by omega)]
      have body : o = 7 ∨ o = 8 ∨ o = 10 ∨ o = 11 ∨ o = 9 → L_131_61 n fnI' (o : Int) ((200 * f + t : Nat) : Int) F (fun F' => TyS F' (tstep X f fn (mk o t e) (h, a :: r, E)) ∧ fr TyP F F') m_no := by
        intro ho2
        have lr : r.length + 1 < 200 := by rw [List.length_cons] at hst; exact hst
        have hS1 : St (m_up F 84 3 (r.length : Int)) := hS.fld kd_84 rk_10_3
        have hT1 := hT.pop
        have al : ∀ v : Nat, v < 602 → C_136 (a.1 : Int) (v : Int) a.2 (m_up F 84 3 (r.length : Int)) (fun F' => TyS F' ((alT (h, E) a.1 v a.2).1, r, (alT (h, E) a.1 v a.2).2) ∧ fr TyP F F') m_no := fun v hv =>
          CaV.on (hT1.al hS1 hE ha hv) (fun F1 _ k => ⟨k.1, (htp fr.rf).tr k.2⟩)
        have v85 : (o = 7 ∨ o = 8) → L_131_85 n ((200 * f + t : Nat) : Int) (m_up F 84 3 (r.length : Int)) (fun F' => TyS F' (tstep X f fn (mk o t e) (h, a :: r, E)) ∧ fr TyP F F') m_no := by
          intro h7
          have ht6 := htk h7
          have q := q_135 (F := m_up F 84 3 (r.length : Int)) (n := n) (f := f) (t := t) hX (fun id hid => by rw [up_row (by unfold m_I1 at hn; simp only [List.mem_cons, List.not_mem_nil, or_false] at hn; omega)]; exact hb id hid) ht6
          refine b_131_85 hn hS1 ?_
          rw [u_eq, Int.toNat_natCast, q.1, u_ne (Or.inl (by decide)), u_ne (Or.inl (by decide)), t2, t3, ts, if_pos h7]
          exact ⟨by omega, q.2, by omega, al _ (by have := slo_lt (X := X) (f := f) (t := t) hX ht6; omega)⟩
        refine b_131_61 hn hS ?_
        rw [t1, show ((r.length + 1 : Nat) : Int) - 1 = (r.length : Int) by omega, Int.toNat_natCast, t2, t3]
        refine ⟨by omega, fun k7 => v85 (by omega), fun k7 => ⟨fun k8 => v85 (by omega), fun k8 => ⟨fun k10 => ⟨by omega, by omega, ?_⟩, fun k10 => ⟨fun k11 => ⟨by omega, by omega, ?_⟩, fun k11 => ?_⟩⟩⟩⟩
        · rw [hfI (by omega), ts, if_neg (by omega), if_pos (by omega)]
          exact al fn (hfn (by omega))
        · rw [ts, if_neg (by omega), if_neg (by omega), if_pos (by omega)]
          exact al 601 (by decide)
        · rw [ts, if_neg (by omega), if_neg (by omega), if_neg (by omega), if_pos (by omega)]
          exact ⟨hT1, htp fr.rf⟩
      refine ⟨fun k => body (by omega), fun k7 => ⟨fun k => body (by omega), fun k8 => ⟨fun k => body (by omega), fun k10 => ⟨fun k => body (by omega), fun k11 => ⟨fun k => body (by omega), fun k9 => ?_⟩⟩⟩⟩⟩
      rw [ts, if_neg (by omega), if_neg (by omega), if_neg (by omega), if_neg (by omega)]
      exact ⟨hT, fr.rf⟩
end M9z
