/-! NAMES LOOKED UP BY THE REFERENCE: USE items, variables -/
def idv (f : Nat) (r : Int) : Int := if r = -1 then -1 else 200 * (f : Int) + r
section M9t
variable {F G : MF} {K : List Int} {X : Nat → List Int} {f g k : Nat}
theorem it_use (hX : ∀ r, r < 24 → Rok (X r)) (hf : f < 3) : ∀ (I : List IT), (∀ e ∈ useO I, e ∈ Uw X f) → ∀ it ∈ I, it.2.1 = 1 → kn (ks X f) it.2.2.1 = 0
  | [], _, it, h, _ => absurd h (List.not_mem_nil)
  | a :: I, hh, it, h, h2 => by
    rcases List.mem_cons.mp h with h | h
    · subst h
      obtain ⟨t, e1, e2, e3⟩ := (Cw_pv hX hf).1.2.2 (it.2.2.1 : Int) (hh _ (List.mem_append_left _ (by rw [if_pos h2]; exact List.mem_singleton.mpr rfl)))
      have : it.2.2.1 = t := by omega
      rw [this]; exact e3
    · exact it_use hX hf I (fun e he => hh e (List.mem_append_right _ he)) it h h2
theorem q_254 {c lo hi : Nat} {it : IT} {nn : Nat → Nat} (hR : RA F X nn) (hf : f < 3) (h : ItP F (ks X f) c lo hi it) (hu : it.2.1 = 1 → kn (ks X f) it.2.2.1 = 0) (hp : it.2.1 = 2 → it.2.2.1 < 256) : g_254 F (f : Int) (it.1 : Int) = (if it.2.1 = 1 then uf X f it.2.2.1 else -1) ∧ o_254 F (f : Int) (it.1 : Int) := by
  have hX := hR.hX
  have p204 : ∀ x : Int, p_204 F x ↔ 0 ≤ x ∧ x ≤ 2 := fun x => by show (¬ (x < 0) ∧ ¬ (2 < x)) ↔ _; omega
  obtain ⟨h1, h2, -⟩ := h
  unfold g_254 o_254
  rw [Int.toNat_natCast]
  rcases h2 with ⟨k1, e1, e2, -⟩ | ⟨k1, e1, e2, -⟩
  · have hn := hu k1
    obtain ⟨hk, hl1, hl2⟩ := name_let hn
    have lk := toks_len hX hf
    have t := lexm_tok (hR.2.1 f hf) hk
    have o := toks_ok hk
    rw [e1, e2, show 200 * (f : Int) + (it.2.2.1 : Int) = ((200 * f + it.2.2.1 : Nat) : Int) by omega, Int.toNat_natCast, t.2.2.2, if_pos rfl, if_pos k1]
    unfold uf
    by_cases es : ts X f it.2.2.1 = 1
    · have q := q_219 hR.1 hX (hR.2.1 f hf) hf hk (i := 0) (by omega)
      rw [show ((0 : Nat) : Int) = 0 from rfl] at q
      rw [if_pos (by omega), if_pos es, q.1]
      refine ⟨?_, by omega, by omega, by omega, by omega, fun _ => ⟨by omega, fun _ => ⟨q.2, by omega, fun _ => trivial, fun _ => trivial⟩, fun h => absurd (by omega) h⟩, fun h => absurd rfl h⟩
      by_cases e3 : chr X f it.2.2.1 0 - 97 < 3
      · rw [if_pos e3, if_pos ((p204 _).mpr (by omega))]
      · rw [if_neg e3, if_neg (fun h => by have := (p204 _).mp h; omega)]
    · rw [if_neg (by omega), if_neg es]
      refine ⟨by split <;> rfl, by omega, by omega, by omega, by omega, fun _ => ⟨by omega, fun h => absurd h (by omega), fun _ => ⟨fun _ => trivial, fun _ => trivial⟩⟩, fun h => absurd rfl h⟩
  · have := hp k1
    rw [e1, e2, if_neg (show ¬ ((2 : Int) = 1) by decide), if_neg (show ¬ it.2.1 = 1 by omega)]
    refine ⟨by split <;> rfl, by omega, by omega, by omega, by omega, fun h => absurd h (by decide), fun _ => ⟨fun _ => trivial, fun _ => trivial⟩⟩
theorem uf_rng {u : Nat} : uf X f u = -1 ∨ uf X f u < 3 := by
  unfold uf
  split
  · split
    · exact Or.inr (by assumption)
    · exact Or.inl rfl
  · exact Or.inl rfl
theorem fnI_no : fnI X (-1) f k = -1 := by unfold fnI; rw [if_neg (by decide)]
theorem s_255 {nn : Nat → Nat} (hS : St F) (hR : RA F X nn) (hf : f < 3) (hk : k < (toks X f).length) : C_255 (f : Int) ((200 * f + k : Nat) : Int) F (fun r F' => r = fnF X f k ∧ F' = F) m_no := by
  have hX := hR.hX
  obtain ⟨I, i1, i2, i3, i4⟩ := hR.its hf
  have stop : ∀ (r x : Int), r ≠ -1 → L_255_15 (f : Int) ((200 * f + k : Nat) : Int) r x F (fun r' F' => r' = r ∧ F' = F) m_no := fun r x hr =>
    b_255_15 hS ⟨fun _ => ⟨rfl, rfl⟩, fun _ => ⟨fun h => absurd h hr, fun _ => ⟨rfl, rfl⟩⟩⟩
  have key : ∀ (I : List IT) (c lo : Nat) (x : Int), ItC F (ks X f) (nn (f + 1)) x c lo I (-1) → (∀ e ∈ fnsO F c I, e ∈ Fw X f) → (∀ e ∈ useO I, e ∈ Uw X f) → L_255_15 (f : Int) ((200 * f + k : Nat) : Int) (-1) x F (fun r F' => r = fnU X f k (useO I) ∧ F' = F) m_no := by
    intro I
    induction I with
    | nil =>
      intro c lo x hx _ _
      exact b_255_15 hS ⟨fun _ => ⟨rfl, rfl⟩, fun h => absurd hx.1 h⟩
    | cons it I ih =>
      rintro c lo x ⟨rfl, hi, hP, h3⟩ hm hu
      have hq := q_254 hR hf hP (fun h => it_use hX hf (it :: I) hu it (List.mem_cons_self) h) (fun h => (it_fn (F := F) hX hf (it :: I) c hm it (List.mem_cons_self) h).1)
      have nx := ih _ _ _ h3 (fun e he => hm e (List.mem_append_right _ he)) (fun e he => hu e (List.mem_append_right _ he))
      have h1 := hP.1
      refine b_255_15 hS ⟨fun h => by omega, fun _ => ⟨fun _ => ⟨hq.2, ?_⟩, fun h => absurd rfl h⟩⟩
      rw [hq.1, Int.toNat_natCast]
      by_cases k1 : it.2.1 = 1
      · have eu : useO (it :: I) = (it.2.2.1 : Int) :: useO I := by
          show (if it.2.1 = 1 then _ else _) ++ _ = _
          rw [if_pos k1]
          rfl
        have st : fnU X f k ((it.2.2.1 : Int) :: useO I) = if fnI X (uf X f it.2.2.1) f k = -1 then fnU X f k (useO I) else fnI X (uf X f it.2.2.1) f k := rfl
        rw [if_pos k1, eu, st]
        refine ⟨fun e => ⟨by omega, ?_⟩, fun e => ?_⟩
        · rw [e, fnI_no, if_pos rfl]
          exact nx
        · have hl := (name_let (it_use hX hf (it :: I) hu it (List.mem_cons_self) k1)).2.1
          have hu0 : 0 ≤ uf X f it.2.2.1 ∧ uf X f it.2.2.1 < 3 := by
            unfold uf at e ⊢
            split at e
            · next e1 =>
              rw [if_pos e1]
              split at e
              · next e2 => rw [if_pos e2]; omega
              · exact absurd rfl e
            · exact absurd rfl e
          obtain ⟨g, hg⟩ : ∃ g : Nat, uf X f it.2.2.1 = (g : Int) := ⟨(uf X f it.2.2.1).toNat, by omega⟩
          rw [hg]
          refine CaI.on (s_253 hS hR (by omega) hf hk) ?_
          rintro r F1 hS1 ⟨rfl, rfl⟩
          refine ⟨by omega, ?_⟩
          by_cases e3 : fnI X (g : Int) f k = -1
          · rw [if_pos e3, e3]
            exact nx
          · rw [if_neg e3]
            exact stop _ _ e3
      · have eu : useO (it :: I) = useO I := by
          show (if it.2.1 = 1 then _ else _) ++ _ = _
          rw [if_neg k1]
          rfl
        rw [if_neg k1, eu]
        exact ⟨fun _ => ⟨by omega, nx⟩, fun h => absurd rfl h⟩
  refine c_255 hS ?_
  refine CaI.on (s_253 hS hR hf hf hk) ?_
  rintro r F1 hS1 ⟨rfl, rfl⟩
  rw [Int.toNat_natCast]
  refine ⟨by omega, ?_⟩
  unfold fnF
  by_cases e : fnI X f f k = -1
  · rw [if_pos e, e]
    have := key I 0 _ _ i1 (fun e he => by rw [i2] at he; exact he) (fun e he => by rw [i3] at he; exact he)
    rw [i3] at this
    exact this
  · rw [if_neg e]
    exact stop _ _ e
/-- a name among the parameters of a function -/
def prs' (p n : Nat) : List Int := (List.range n).map (fun i : Nat => (p : Int) + 2 + 2 * (i : Int))
theorem prs_gx {p n i : Nat} (hi : i < n) : gx (prs' p n) i = ((p + 2 + 2 * i : Nat) : Int) := by
  unfold gx prs'
  rw [List.getD_eq_getElem?_getD, List.getElem?_map, List.getElem?_range hi]
  show (p : Int) + 2 + 2 * (i : Int) = _
  omega
theorem prs_len {p n : Nat} : (prs' p n).length = n := by unfold prs'; rw [List.length_map, List.length_range]
theorem s_256 {nn : Nat → Nat} {v p n : Nat} (hS : St F) (hR : RA F X nn) (hf : f < 3) (hk : k < (toks X f).length) (hv : v + n < 1600) (hP : PM F v p n) (hp : ∀ i, i < n → p + 2 + 2 * i < (toks X f).length) :
    C_256 (f : Int) (v : Int) ((200 * f + k : Nat) : Int) F (fun r F' => r = idv f (fst' X f k (prs' p n)) ∧ F' = F) m_no := by
  have hX := hR.hX
  have lk := toks_len hX hf
  have pl := prs_len (p := p) (n := n)
  have key : ∀ (d i : Nat), i + d = n → L_256_8 (f : Int) ((200 * f + k : Nat) : Int) (if i < n then ((v + 1 + i : Nat) : Int) else -1) F (fun r F' => r = idv f (fst' X f k ((prs' p n).drop i)) ∧ F' = F) m_no := by
    intro d
    induction d with
    | zero =>
      intro i hi
      rw [if_neg (by omega), List.drop_eq_nil_of_le (by omega)]
      exact b_256_8 hS ⟨fun _ => ⟨rfl, rfl⟩, fun h => absurd rfl h⟩
    | succ d ih =>
      intro i hi
      have hpi := hp i (by omega)
      obtain ⟨q1, q2, q3⟩ := hP.2 i (by omega)
      rw [if_pos (by omega)]
      refine b_256_8 hS ⟨fun h => by omega, fun _ => ?_⟩
      rw [Int.toNat_natCast, q2, show 200 * (f : Int) + ((p + 2 + 2 * i : Nat) : Int) = ((200 * f + (p + 2 + 2 * i) : Nat) : Int) by omega]
      refine ⟨by omega, by omega, by omega, ?_⟩
      refine CaI.on (s_220 hS hR.1 hX hR.2.1 hf hf hpi hk) ?_
      rintro r F1 hS1 ⟨rfl, rfl⟩
      rw [drop_cons (by omega), prs_gx (by omega)]
      have st : fst' X f k (((p + 2 + 2 * i : Nat) : Int) :: (prs' p n).drop (i + 1)) = if tx X f (p + 2 + 2 * i) = tx X f k then ((p + 2 + 2 * i : Nat) : Int) else fst' X f k ((prs' p n).drop (i + 1)) := by
        show (if tx X f (((p + 2 + 2 * i : Nat) : Int)).toNat = tx X f k then _ else _) = _
        rw [Int.toNat_natCast]
      rw [st, q2, q3]
      refine ⟨fun h => ⟨by omega, ?_⟩, fun h => ⟨by omega, by omega, by omega, ?_, rfl⟩⟩
      · rw [if_neg (of_decide_eq_false (bi0.mp h))]
        have := ih (i + 1) (by omega)
        rw [show v + 1 + (i + 1) = v + 2 + i by omega] at this
        exact this
      · rw [if_pos (Decidable.of_not_not (fun e => h (by rw [decide_eq_false e]; rfl)))]
        unfold idv
        rw [if_neg (by omega)] <;> omega
  refine c_256 hS ⟨by omega, ?_⟩
  rw [Int.toNat_natCast, hP.1]
  have := key n 0 (by omega)
  by_cases e : n = 0
  · rw [if_pos e]
    rw [if_neg (by omega)] at this
    exact this
  · rw [if_neg e]
    rw [if_pos (by omega)] at this
    exact this
theorem TVs.neg {L : List Int} (h : TVs X f L) : ¬ ∃ t ∈ L, t < 0 := fun ⟨t, ht, h0⟩ => by
  obtain ⟨m, e, -⟩ := h t ht
  omega
theorem fst_ap {A B : List Int} (h : TVs X f A) : fst' X f k (A ++ B) = if fst' X f k A = -1 then fst' X f k B else fst' X f k A := (fst_app A B).resolve_right h.neg
/-- the last variable of a name ahead of a statement -/
theorem s_257 {nn : Nat → Nat} {b v m : Nat} {L : List Int} (hS : St F) (hR : RA F X nn) (hf : f < 3) (hk : k < (toks X f).length) (hb : b < 1600) (hv : v < 1600) (hL : LtC F m (F 224 b) v L) (hT : TVs X f L) :
    C_257 (f : Int) (b : Int) (v : Int) ((200 * f + k : Nat) : Int) F (fun r F' => r = idv f (fst' X f k L.reverse) ∧ F' = F) m_no := by
  have hX := hR.hX
  have lk := toks_len hX hf
  have key : ∀ (m : Nat) (x r0 : Int) (L : List Int), LtC F m x v L → TVs X f L → L_257_11 (f : Int) (v : Int) ((200 * f + k : Nat) : Int) r0 x F (fun r F' => r = (if fst' X f k L.reverse = -1 then r0 else 200 * (f : Int) + fst' X f k L.reverse) ∧ F' = F) m_no := by
    intro m
    induction m with
    | zero =>
      rintro x r0 L ⟨rfl, rfl⟩ _
      exact b_257_11 hS ⟨fun _ => ⟨rfl, rfl⟩, fun h => absurd rfl h⟩
    | succ m ih =>
      rintro x r0 L ⟨u, L', rfl, h2, rfl, h4⟩ hT
      have hT' : TVs X f L' := fun t ht => hT t (List.mem_append_right _ ht)
      have hTr : TVs X f L'.reverse := fun t ht => hT' t (List.mem_reverse.mp ht)
      refine b_257_11 hS ⟨fun h => by omega, fun _ => ?_⟩
      rw [Int.toNat_natCast]
      refine ⟨by omega, fun e5 => ?_, fun e5 => ⟨by omega, ?_⟩⟩
      · rw [if_pos e5] at hT ⊢
        obtain ⟨t, et, ht⟩ := hT (F 222 u) (List.mem_append_left _ (List.mem_singleton.mpr rfl))
        rw [et, List.reverse_append, fst_ap hTr, show 200 * (f : Int) + (t : Int) = ((200 * f + t : Nat) : Int) by omega]
        refine ⟨by omega, by omega, by omega, ?_⟩
        refine CaI.on (s_220 hS hR.1 hX hR.2.1 hf hf ht hk) ?_
        rintro r F1 hS1 ⟨rfl, rfl⟩
        have e1 : fst' X f k ([(t : Int)].reverse) = if tx X f t = tx X f k then (t : Int) else -1 := rfl
        rw [e1]
        have rr := fst_rng (k := k) hTr
        refine ⟨fun h => ⟨by omega, ?_⟩, fun h => ⟨by omega, by omega, by rw [et]; omega, by omega, ?_⟩⟩
        · have hx : ¬ tx X f t = tx X f k := of_decide_eq_false (bi0.mp h)
          rw [if_neg hx]
          refine EvI.mono (ih _ r0 L' h4 hT') ?_ (fun _ _ _ h => h)
          rintro r F' _ ⟨rfl, h⟩
          refine ⟨?_, h⟩
          by_cases e : fst' X f k L'.reverse = -1
          · rw [if_pos e, if_pos e, if_pos rfl]
          · rw [if_neg e, if_neg e, if_neg e]
        · have hx : tx X f t = tx X f k := Decidable.of_not_not (fun e => h (by rw [decide_eq_false e]; rfl))
          rw [if_pos hx, et, show 200 * (f : Int) + (t : Int) = ((200 * f + t : Nat) : Int) by omega]
          refine EvI.mono (ih _ ((200 * f + t : Nat) : Int) L' h4 hT') ?_ (fun _ _ _ h => h)
          rintro r F' _ ⟨rfl, h⟩
          refine ⟨?_, h⟩
          by_cases e : fst' X f k L'.reverse = -1
          · rw [if_pos e, if_pos e, if_neg (by omega)]; omega
          · rw [if_neg e, if_neg e, if_neg e]
      · rw [if_neg e5] at hT ⊢
        exact ih _ r0 L' h4 hT'
  refine c_257 hS ⟨by omega, ?_⟩
  rw [Int.toNat_natCast]
  exact key m _ (-1) L hL hT
/-- to what a name is bound in a statement -/
theorem s_258 {nn : Nat → Nat} {vf p n : Nat} (hR : RA F X nn) (hf : f < 3) (hk : k < (toks X f).length) (hvf : vf + n < 1600) (hP : PM F vf p n) (hp : ∀ i, i < n → p + 2 + 2 * i < (toks X f).length) (hS : St F) :
    ∀ (d v : Nat) (Bs : List (List Int)), Env F vf d v Bs → TVs X f Bs.flatten → C_258 (f : Int) (v : Int) ((200 * f + k : Nat) : Int) F (fun r F' => r = idv f (fst' X f k (Bs.flatten ++ prs' p n)) ∧ F' = F) m_no := by
  have hX := hR.hX
  have lk := toks_len hX hf
  have TP : TVs X f (prs' p n) := fun t ht => by
    obtain ⟨i, hi, rfl⟩ := List.mem_map.mp ht
    rw [List.mem_range] at hi
    exact ⟨p + 2 + 2 * i, by show (p : Int) + 2 + 2 * (i : Int) = _; omega, hp i hi⟩
  -- one block after the other
  have key : ∀ (d v : Nat) (Bs : List (List Int)), Env F vf d v Bs → TVs X f Bs.flatten → ∀ Q : Int → MF → Prop, (∀ r, r = idv f (fst' X f k (Bs.flatten ++ prs' p n)) → Q r F) → ∃ b : Nat, F 229 v = (b : Int) ∧ v < 1600 ∧ C_257 (f : Int) (b : Int) (v : Int) ((200 * f + k : Nat) : Int) F (fun r F' => L_258_24 (f : Int) ((200 * f + k : Nat) : Int) (b : Int) r F' Q m_no) m_no := by
    intro d
    induction d with
    | zero => intro v Bs h; exact absurd h (fun h => h)
    | succ d ih =>
      rintro v Bs ⟨b, m, L, r, h1, h2, h3, h4, rfl, h5⟩ hT Q hQ
      have hTL : TVs X f L := fun t ht => hT t (List.mem_append_left _ (List.mem_reverse.mpr ht))
      have hTr : TVs X f r.flatten := fun t ht => hT t (List.mem_append_right _ ht)
      have hTR : TVs X f L.reverse := fun t ht => hTL t (List.mem_reverse.mp ht)
      refine ⟨b, h3, h1, CaI.on (s_257 hS hR hf hk h2 h1 h4 hTL) ?_⟩
      rintro r1 F1 hS1 ⟨rfl, rfl⟩
      have ea : (L.reverse :: r).flatten ++ prs' p n = L.reverse ++ (r.flatten ++ prs' p n) := by rw [List.flatten_cons, List.append_assoc]
      rw [ea, fst_ap hTR] at hQ
      refine b_258_24 hS1 ⟨fun e => ⟨by omega, ?_⟩, fun e => hQ _ ?_⟩
      · have e1 : fst' X f k L.reverse = -1 := by
          rcases fst_rng (k := k) hTR with h | ⟨t, ht, -⟩
          · exact h
          · unfold idv at e
            rw [if_neg (by omega)] at e
            omega
        rw [if_pos e1] at hQ
        rw [Int.toNat_natCast]
        rcases h5 with ⟨k1, k2, rfl⟩ | ⟨hn, b', k1, k2, k3, k4, k5⟩
        · refine ⟨fun _ => ⟨by omega, ?_⟩, fun h => absurd k1 h⟩
          rw [k2]
          refine CaI.on (s_256 hS1 hR hf hk hvf hP hp) ?_
          rintro r2 F2 hS2 ⟨rfl, rfl⟩
          exact hQ _ rfl
        · obtain ⟨b2, q1, q2, q3⟩ := ih hn r k5 hTr Q hQ
          refine ⟨fun h => by omega, fun _ => ⟨by omega, fun e6 => ⟨by omega, ?_⟩, fun e6 => ⟨by omega, by omega, ?_⟩⟩⟩
          · rcases k1 with ⟨-, rfl⟩ | k1
            · rw [q1]; exact q3
            · omega
          · rcases k1 with ⟨k1, -⟩ | k1
            · exact absurd k1 e6
            · rw [k1, ← k2, q1]; exact q3
      · unfold idv at e ⊢
        by_cases e1 : fst' X f k L.reverse = -1
        · rw [if_pos e1] at e; exact absurd rfl e
        · rw [if_neg e1, if_neg e1, if_neg e1]
  intro d v Bs hE hT
  obtain ⟨b, q1, q2, q3⟩ := key d v Bs hE hT (fun r F' => r = idv f (fst' X f k (Bs.flatten ++ prs' p n)) ∧ F' = F) (fun r hr => ⟨hr, rfl⟩)
  refine c_258 hS ⟨by omega, ?_⟩
  rw [Int.toNat_natCast, q1]
  exact q3
end M9t
