/-! A MOVE, OF THE REFERENCE: what is asked -/
/-- some token of a file speaks of what is in another one -/
def ndR (X Y : Nat → List Int) (og : Nat → Int) (a b : Nat) : Prop := ∃ old new v w : Nat, MvT X Y og old new ∧ bnd X old = (v : Int) ∧ MvT X Y og v w ∧ new / 200 = a ∧ w / 200 = b
section Mm1
variable {F G : MF} {X Y : Nat → List Int} {K : List Int} {og : Nat → Int} {f t o l a b n k top : Nat} {nn : Nat → Nat}
theorem l_270l {t : Nat} {id : Int} (hS : St F) (hid : 0 ≤ id ∧ id < 600) (ht : id % 200 = (t : Int)) : ∀ (I : List IT) (x : Int) (c lo i : Nat), ItC F K top x c lo I (-1) → fix' (fnsO F c I) (t : Int) i ≠ -1 →
    L_270_13 id x F (fun r F' => ∃ it ∈ I, it.2.1 = 2 ∧ it.2.2.1 = t ∧ r = (it.1 : Int) ∧ F' = F ∧ gx ((fnsO F c I).map (fun e => e.2.2.2)) ((fix' (fnsO F c I) (t : Int) i).toNat - i) = F 228 it.2.2.2.2.1) m_no
  | [], x, c, lo, i, _, h => absurd rfl h
  | it :: I, x, c, lo, i, ⟨h1, hi, hP, h3⟩, h => by
    have hlt := hP.1
    refine b_270_13 hS ⟨by omega, ?_⟩
    rw [h1, Int.toNat_natCast]
    have cons2 : it.2.1 = 2 → fnsO F c (it :: I) = ((it.2.2.1 : Int), (it.2.2.2.1 : Int), (c : Int), F 228 it.2.2.2.2.1) :: fnsO F (c + it.2.2.2.2.2.length) I := fun e => by
      show (if it.2.1 = 2 then [((it.2.2.1 : Int), (it.2.2.2.1 : Int), (c : Int), F 228 it.2.2.2.2.1)] else []) ++ _ = _
      rw [if_pos e]
      rfl
    have cons1 : it.2.1 ≠ 2 → fnsO F c (it :: I) = fnsO F (c + it.2.2.2.2.2.length) I := fun e => by
      show (if it.2.1 = 2 then [((it.2.2.1 : Int), (it.2.2.2.1 : Int), (c : Int), F 228 it.2.2.2.2.1)] else []) ++ _ = _
      rw [if_neg e]
      rfl
    rcases hP.2.1 with ⟨k1, k2, k3, -⟩ | ⟨k1, k2, k3, -⟩
    · rw [k2]
      refine ⟨fun e => absurd e (by decide), fun _ => ⟨by omega, ?_⟩⟩
      rw [cons1 (by omega)] at h ⊢
      refine EvI.mono (l_270l hS hid ht I _ _ _ i h3 h) ?_ (fun _ _ _ h => h)
      rintro r F1 hS1 ⟨it', m1, m2⟩
      exact ⟨it', List.mem_cons_of_mem _ m1, m2⟩
    · rw [k2, k3]
      refine ⟨fun _ => ⟨by omega, by omega, fun e => ?_, fun e => ⟨by omega, ?_⟩⟩, fun e => absurd rfl e⟩
      · refine ⟨it, List.mem_cons_self, k1, by omega, rfl, rfl, ?_⟩
        rw [cons2 k1]
        show gx (F 228 it.2.2.2.2.1 :: _) ((if (it.2.2.1 : Int) = (t : Int) then (i : Int) else _).toNat - i) = _
        rw [if_pos (by omega), Int.toNat_natCast, Nat.sub_self]
        rfl
      · have e2 : ¬ (it.2.2.1 : Int) = (t : Int) := by omega
        rw [cons2 k1] at h ⊢
        have st : fix' (((it.2.2.1 : Int), (it.2.2.2.1 : Int), (c : Int), F 228 it.2.2.2.2.1) :: fnsO F (c + it.2.2.2.2.2.length) I) (t : Int) i = fix' (fnsO F (c + it.2.2.2.2.2.length) I) (t : Int) (i + 1) := by
          show (if (it.2.2.1 : Int) = (t : Int) then (i : Int) else _) = _
          rw [if_neg e2]
        rw [st] at h ⊢
        have hr := (fix_rng (fnsO F (c + it.2.2.2.2.2.length) I) (t : Int) (i + 1)).resolve_left h
        refine EvI.mono (l_270l hS hid ht I _ _ _ (i + 1) h3 h) ?_ (fun _ _ _ h => h)
        rintro r F1 hS1 ⟨it', m1, m2, m3, m4, m5, m6⟩
        refine ⟨it', List.mem_cons_of_mem _ m1, m2, m3, m4, m5, ?_⟩
        rw [List.map_cons, show (fix' (fnsO F (c + it.2.2.2.2.2.length) I) (t : Int) (i + 1)).toNat - i = ((fix' (fnsO F (c + it.2.2.2.2.2.length) I) (t : Int) (i + 1)).toNat - (i + 1)) + 1 by omega]
        exact m6
theorem s_270l {a b : Nat} {I : List IT} (hS : St F) (hf : f < 3) (ht : t < 200) (hI : ITs F X f a b I) (hx : fix' (Fw X f) (t : Int) 0 ≠ -1) :
    C_270 ((200 * f + t : Nat) : Int) F (fun r F' => ∃ it ∈ I, it.2.1 = 2 ∧ r = (it.1 : Int) ∧ F' = F ∧ lastX X f t = F 228 it.2.2.2.2.1) m_no := by
  obtain ⟨i1, i2, -, -⟩ := hI
  refine c_270 hS ?_
  have e1 : ((200 * f + t : Nat) : Int) / 200 = (f : Int) := by omega
  rw [e1, Int.toNat_natCast]
  refine ⟨by omega, by omega, ?_⟩
  rw [← i2] at hx
  refine EvI.mono (l_270l hS (by omega) (by omega) I _ _ _ 0 i1 hx) ?_ (fun _ _ _ h => h)
  rintro r F1 hS1 ⟨it, m1, m2, m3, m4, m5, m6⟩
  refine ⟨it, m1, m2, m4, m5, ?_⟩
  rw [i2] at hx m6
  unfold lastX
  rw [if_neg hx]
  exact m6
theorem hit_fo {top2 : Nat} : ∀ (I : List IT) (lo : Nat), HIt F F X f top2 lo I → ∀ it ∈ I, it.2.1 = 2 → F 225 it.1 = (it.2.2.2.2.1 : Int) ∧ it.2.2.2.2.1 < 1600 ∧ it.1 < 1600
  | [], _, _, it, h, _ => absurd h (List.not_mem_nil)
  | e :: I, lo, ⟨hi, q1, q2, q3, q4, q5⟩, it, h, h2 => by
    rcases List.mem_cons.mp h with c | c
    · subst c
      obtain ⟨L, W1, hO, -⟩ := q3 h2
      obtain ⟨o1, o2, o3, o4, o5, o6, o7, o8, o9, o10, o11⟩ := hO
      exact ⟨o8, o9, by omega⟩
    · exact hit_fo I hi q5 it c h2
/-- whether a file uses another one -/
theorem s_328 (hS : St F) (hR : RA F Y nn) (ha : a < 3) : C_328 (a : Int) (b : Int) F (fun r F' => r = pif (usesX Y a b) 1 0 ∧ F' = F) m_no := by
  have hX := hR.hX
  obtain ⟨I, i1, i2, i3, i4⟩ := hR.its ha
  have key : ∀ (I : List IT) (c lo : Nat) (x : Int) (z : Bool), ItC F (ks Y a) (nn (a + 1)) x c lo I (-1) → (∀ e ∈ fnsO F c I, e ∈ Fw Y a) → (∀ u ∈ useO I, u ∈ Uw Y a) → L_328_10 (a : Int) (b : Int) (bi z) x F (fun r F' => r = bi (z || (useO I).any (fun u => decide (uf Y a u.toNat = (b : Int)))) ∧ F' = F) m_no := by
    intro I
    induction I with
    | nil =>
      intro c lo x z hx _ _
      refine b_328_10 hS ⟨fun _ => ⟨bi01 z, ?_, rfl⟩, fun h => absurd hx.1 h⟩
      show bi z = bi (z || false)
      rw [Bool.or_false]
    | cons it I ih =>
      rintro c lo x z ⟨rfl, hi, hP, h3⟩ hm hu
      have h1 := hP.1
      have hm2 : ∀ e ∈ fnsO F (c + it.2.2.2.2.2.length) I, e ∈ Fw Y a := fun e he => hm e (List.mem_append_right _ he)
      have hu2 : ∀ u ∈ useO I, u ∈ Uw Y a := fun u hu' => hu u (List.mem_append_right _ hu')
      have nx := fun z => ih _ _ _ z h3 hm2 hu2
      have q := q_254 hR ha hP (it_use hX ha (it :: I) hu it (List.mem_cons_self)) (fun e => (it_fn (F := F) hX ha (it :: I) c hm it (List.mem_cons_self) e).1)
      have eu : useO (it :: I) = (if it.2.1 = 1 then [(it.2.2.1 : Int)] else []) ++ useO I := rfl
      refine b_328_10 hS ⟨fun h => by omega, fun _ => ⟨fun h0 => ?_, fun h0 => ?_⟩⟩
      · have hz : z = false := bi0.mp h0
        subst hz
        rw [Int.toNat_natCast, q.1]
        by_cases e1 : it.2.1 = 1
        · rw [if_pos e1] at eu ⊢
          rw [eu, List.singleton_append, List.any_cons, Int.toNat_natCast]
          refine ⟨q.2, fun e => ⟨by omega, ?_⟩, fun e => ⟨by omega, ?_⟩⟩
          · rw [decide_eq_true e, Bool.true_or, Bool.false_or]
            have := nx true
            rw [Bool.true_or] at this
            exact this
          · rw [decide_eq_false e, Bool.false_or, Bool.false_or]
            have := nx false
            rw [Bool.false_or] at this
            exact this
        · rw [if_neg e1] at eu ⊢
          rw [eu, List.nil_append]
          exact ⟨q.2, fun e => by omega, fun _ => ⟨by omega, nx false⟩⟩
      · have hz : z = true := by
          cases z with
          | true => rfl
          | false => exact absurd rfl h0
        subst hz
        rw [Int.toNat_natCast, Bool.true_or]
        refine ⟨by omega, ?_⟩
        have := nx true
        rw [Bool.true_or] at this
        exact this
  refine c_328 hS ?_
  rw [Int.toNat_natCast]
  refine ⟨by omega, ?_⟩
  have h0 := key I 0 _ _ false i1 (fun e he => by rw [i2] at he; exact he) (fun u hu => by rw [i3] at hu; exact hu)
  refine EvI.mono h0 ?_ (fun _ _ _ h => h)
  rintro r F' _ ⟨rfl, rfl⟩
  refine ⟨?_, rfl⟩
  rw [i3, Bool.false_or]
  by_cases hx : usesX Y a b
  · obtain ⟨u, u1, u2⟩ := hx
    rw [pif_1 ⟨u, u1, u2⟩, List.any_eq_true.mpr ⟨u, u1, decide_eq_true u2⟩]
    rfl
  · rw [pif_0 hx]
    have : (Uw Y a).any (fun u => decide (uf Y a u.toNat = (b : Int))) = false := Bool.eq_false_iff.mpr (fun h => by
      obtain ⟨u, u1, u2⟩ := List.any_eq_true.mp h
      exact hx ⟨u, u1, of_decide_eq_true u2⟩)
    rw [this]
    rfl
theorem m_kn (hT : TL F Y) (ha : a < 3) (hk : k ≤ (toks Y a).length) : F 213 (200 * a + k) = kn (ks Y a) k := by
  by_cases c : k < (toks Y a).length
  · exact (lexm_tok (hT.2 a ha) c).1
  · have : k = (toks Y a).length := by omega
    rw [this, (hT.2 a ha).2.1, kn_end (by rw [ks_len']; exact Nat.le_refl _)]
/-- whether a file speaks of what is in another one -/
theorem s_329 (hS : St F) (hX : ∀ r, r < 24 → Rok (X r)) (hR : RgF X f t l top n) (hI : OgI (inR f top n) X Y og) (hT : TL F Y) (hM : MvR F X Y og) (h272 : ∀ i, i < 600 → F 272 i = bnd X i) (h274 : ∀ i, i < 600 → F 274 i = wasF X i) (ha : a < 3) (hab : a ≠ b) :
    C_329 (a : Int) (b : Int) F (fun r F' => r = pif (ndR X Y og a b) 1 0 ∧ F' = F) m_no := by
  have hY := hI.1
  have la := toks_len hY ha
  have hc : F 217 a = ((toks Y a).length : Int) := (hT.2 a ha).1.1
  have key : ∀ (d k : Nat) (x : Int), k + d = (toks Y a).length → (x = 0 ∧ ¬ ∃ old new v w : Nat, MvT X Y og old new ∧ bnd X old = (v : Int) ∧ MvT X Y og v w ∧ new / 200 = a ∧ w / 200 = b ∧ new < 200 * a + k) ∨ (x = 1 ∧ ndR X Y og a b) → L_329_9 (a : Int) (b : Int) x ((200 * a + k : Nat) : Int) F (fun r F' => r = pif (ndR X Y og a b) 1 0 ∧ F' = F) m_no := by
    intro d
    induction d with
    | zero =>
      intro k x hk hx
      refine b_329_9 hS ?_
      rw [Int.toNat_natCast, hc]
      refine ⟨by omega, by omega, by omega, fun h => by omega, fun _ => ?_⟩
      rcases hx with ⟨rfl, hx⟩ | ⟨rfl, hx⟩
      · refine ⟨Or.inl rfl, (pif_0 (fun ⟨old, new, v, w, h1, h2, h3, h4, h5⟩ => hx ⟨old, new, v, w, h1, h2, h3, h4, h5, ?_⟩)).symm, rfl⟩
        have := (mv_tok hX hI h1).2.2.2.1
        unfold vid at this
        rw [h4] at this
        omega
      · exact ⟨Or.inr rfl, (pif_1 hx).symm, rfl⟩
    | succ d ih =>
      intro k x hk hx
      have hk2 : k < (toks Y a).length := by omega
      have e1 : (200 * a + k) / 200 = a ∧ (200 * a + k) % 200 = k := by omega
      have nxv : ∀ y : Int, (y = 0 ∧ x = 0 ∧ ¬ ∃ old v w : Nat, MvT X Y og old (200 * a + k) ∧ bnd X old = (v : Int) ∧ MvT X Y og v w ∧ w / 200 = b) ∨ (y = 1 ∧ ndR X Y og a b) → L_329_9 (a : Int) (b : Int) y (((200 * a + k : Nat) : Int) + 1) F (fun r F' => r = pif (ndR X Y og a b) 1 0 ∧ F' = F) m_no := fun y hy => by
        have h9 : (y = 0 ∧ ¬ ∃ old new v w : Nat, MvT X Y og old new ∧ bnd X old = (v : Int) ∧ MvT X Y og v w ∧ new / 200 = a ∧ w / 200 = b ∧ new < 200 * a + (k + 1)) ∨ (y = 1 ∧ ndR X Y og a b) := by
          rcases hy with ⟨h1, h2, h3⟩ | h1
          · refine Or.inl ⟨h1, fun ⟨old, new, v, w, g1, g2, g3, g4, g5, g6⟩ => ?_⟩
            by_cases c : new = 200 * a + k
            · subst c; exact h3 ⟨old, v, w, g1, g2, g3, g5⟩
            · rcases hx with ⟨-, hx⟩ | ⟨hx, -⟩
              · exact hx ⟨old, new, v, w, g1, g2, g3, g4, g5, by omega⟩
              · omega
          · exact Or.inr h1
        have := ih (k + 1) y (by omega) h9
        rw [show ((200 * a + (k + 1) : Nat) : Int) = ((200 * a + k : Nat) : Int) + 1 by omega] at this
        exact this
      have nx : (¬ ∃ old v w : Nat, MvT X Y og old (200 * a + k) ∧ bnd X old = (v : Int) ∧ MvT X Y og v w ∧ w / 200 = b) → L_329_9 (a : Int) (b : Int) x (((200 * a + k : Nat) : Int) + 1) F (fun r F' => r = pif (ndR X Y og a b) 1 0 ∧ F' = F) m_no := fun h => by
        rcases hx with ⟨h1, -⟩ | ⟨h1, h2⟩
        · exact nxv x (Or.inl ⟨h1, h1, h⟩)
        · exact nxv x (Or.inr ⟨h1, h2⟩)
      -- what speaks of another file is a call
      have call : ∀ old v w : Nat, MvT X Y og old (200 * a + k) → bnd X old = (v : Int) → MvT X Y og v w → w / 200 = b → kn (ks Y a) k = 0 ∧ kn (ks Y a) (k + 1) = 10 ∧ wasF X old = 1 := fun old v w g1 g2 g3 g4 => by
        have := nd_call hX hR hI g1 g2 g3 (by rw [e1.1, g4]; exact hab)
        rw [e1.1, e1.2] at this
        exact this
      refine b_329_9 hS ?_
      rw [Int.toNat_natCast, hc, Int.toNat_natCast, m_kn hT ha (show k ≤ _ by omega), show (((200 * a + k : Nat) : Int) + 1).toNat = 200 * a + (k + 1) by omega, m_kn hT ha (show k + 1 ≤ _ by omega)]
      refine ⟨by omega, by omega, by omega, fun _ => ?_, fun h => by omega⟩
      rcases hM.2 (200 * a + k) (by omega) with ⟨q1, q2⟩ | ⟨old, q1, q2⟩
      · rw [q1]
        exact ⟨by omega, fun _ => ⟨by omega, nx (fun ⟨old, v, w, g1, _⟩ => q2 old g1)⟩, fun h => absurd rfl h⟩
      · have t1 := mv_tok hX hI q2
        rw [q1, Int.toNat_natCast, h272 old t1.1, h274 old t1.1]
        have only : ∀ {p : Prop}, (∀ v w : Nat, bnd X old = (v : Int) → MvT X Y og v w → w / 200 = b → p) → ¬ p → ¬ ∃ old v w : Nat, MvT X Y og old (200 * a + k) ∧ bnd X old = (v : Int) ∧ MvT X Y og v w ∧ w / 200 = b := fun {p} hp hn ⟨old', v, w, g1, g2, g3, g4⟩ => by
          have : old' = old := mv_inj hX hI g1 q2
          subst this
          exact hn (hp v w g2 g3 g4)
        refine ⟨by omega, fun h => by omega, fun _ => ⟨by omega, fun h0 => ⟨by omega, by omega, fun h10 => ⟨by omega, fun hw => ⟨by omega, nx (only (fun v w g2 g3 g4 => (call old v w q2 g2 g3 g4).2.2) (fun h => by omega))⟩, fun hw => ?_⟩, fun h10 => ⟨by omega, nx (only (fun v w g2 g3 g4 => (call old v w q2 g2 g3 g4).2.1) h10)⟩⟩, fun h0 => ⟨by omega, nx (only (fun v w g2 g3 g4 => (call old v w q2 g2 g3 g4).1) h0)⟩⟩⟩
        have hbn : bnd X old ≠ -1 := by
          unfold wasF at hw
          by_cases c : vid X old ∧ bnd X old ≠ -1 ∧ isF X (bnd X old).toNat = true
          · exact c.2.1
          · rw [pif_0 c] at hw; exact absurd rfl hw
        obtain ⟨g, z, z1, z2, -, z3⟩ := (bnd_rg2 hX t1.1).resolve_left hbn
        have lg := toks_len hX z1
        obtain ⟨w, w1⟩ := mv_ex (old := 200 * g + z) hX hI (by omega) (by unfold vid; rw [show (200 * g + z) / 200 = g by omega]; omega)
        have t2 := mv_tok hX hI w1
        rw [z3, Int.toNat_natCast, hM.1 (200 * g + z) (by omega), bcm_at hX hI w1]
        refine ⟨fun hx0 => ⟨by omega, by omega, by omega, fun e => ⟨by omega, nxv 1 (Or.inr ⟨rfl, old, 200 * a + k, 200 * g + z, w, q2, z3, w1, e1.1, by omega⟩)⟩, fun e => ⟨by omega, nxv 0 (Or.inl ⟨rfl, hx0, ?_⟩)⟩⟩, fun hx1 => ⟨by omega, ?_⟩⟩
        · refine only (p := w / 200 = b) (fun v w' g2 g3 g4 => ?_) (fun h => e (by omega))
          have : v = 200 * g + z := by omega
          subst this
          rw [mv_fun hX hI w1 g3]
          exact g4
        · rcases hx with ⟨h1, -⟩ | ⟨-, h2⟩
          · exact absurd h1 hx1
          · exact nxv 1 (Or.inr ⟨rfl, h2⟩)
  refine c_329 hS ⟨by omega, ?_⟩
  have := key (toks Y a).length 0 0 (by omega) (Or.inl ⟨rfl, fun ⟨old, new, v, w, h1, h2, h3, h4, h5, h6⟩ => by omega⟩)
  rw [show ((200 * a + 0 : Nat) : Int) = 200 * (a : Int) by omega] at this
  exact this
/-- whether a function can be moved -/
theorem s_330 (hS : St F) (hX : ∀ r, r < 24 → Rok (X r)) (hT : TL F X) (hf : f < 3) (ho : o < 3) (ht : 1 ≤ t) (htl : t < l) (hl : l < (toks X f).length) :
    C_330 (f : Int) ((200 * f + (t - 1) : Nat) : Int) ((200 * f + l : Nat) : Int) (o : Int) F (fun r F' => r = pif (mvk X f t o l) 1 0 ∧ F' = F) m_no := by
  have lk := toks_len hX hf
  have lo := toks_len hX ho
  have hc : F 217 f = ((toks X f).length : Int) := (hT.2 f hf).1.1
  have hco : F 217 o = ((toks X o).length : Int) := (hT.2 o ho).1.1
  have t1 := lexm_tok (hT.2 f hf) (show t - 1 < (toks X f).length by omega)
  have tl0 := lexm_tok (hT.2 f hf) hl
  have o1 := toks_ok (show t - 1 < (toks X f).length by omega)
  have o2 := toks_ok hl
  have md1 : ∀ g m, g < 3 → m < 8 → F 218 (8 * g + m) = bi (md X g (m + 1)) := fun g m hg hm => (hT.2 g hg).2.2.1 m hm
  have bad : ¬ mvk X f t o l → (0 : Int) = pif (mvk X f t o l) 1 0 ∧ F = F := fun h => ⟨(pif_0 h).symm, rfl⟩
  have p203 : ∀ x y z : Int, p_203 F x y z ↔ y ≤ x ∧ x ≤ z := fun x y z => by show (¬ (x < y) ∧ ¬ (z < x)) ↔ _; omega
  -- the end of the asking
  have g324 : g_324 F (o : Int) = (atX X o : Int) - 1 ∧ o_324 F (o : Int) := by
    unfold g_324 o_324 atX
    rw [Int.toNat_natCast, hco]
    by_cases c : (toks X o).length = 0
    · rw [if_pos (by omega), if_pos c]
      exact ⟨by omega, by omega, fun _ => trivial, fun h => by omega⟩
    · have t3 := lexm_tok (hT.2 o ho) (show (toks X o).length - 1 < (toks X o).length by omega)
      rw [if_neg (by omega), if_neg c, show (200 * (o : Int) + ((toks X o).length : Int) - 1).toNat = 200 * o + ((toks X o).length - 1) by omega, t3.2.1]
      exact ⟨by omega, by omega, fun h => by omega, fun _ => ⟨by omega, by omega, by omega, by omega, by omega, trivial⟩⟩
  have a8 := at_nt hX ho
  have key : ∀ (d k : Nat) (x : Int), k + d = (toks X f).length → (x = 1 ∧ md X f (tl X f (t - 1)) = false ∧ md X f (tl X f l + 1) = false ∧ ∀ z, z < k → tl X f (t - 1) ≤ tl X f z → tl X f z ≤ tl X f l → t - 1 ≤ z ∧ z ≤ l) ∨ (x = 0 ∧ ¬ mvk X f t o l) →
      L_330_71 (f : Int) ((200 * f + (t - 1) : Nat) : Int) ((200 * f + l : Nat) : Int) (o : Int) (8 * (f : Int) + (tl X f (t - 1) : Int)) (8 * (f : Int) + (tl X f l : Int)) x ((200 * f + k : Nat) : Int) F (fun r F' => r = pif (mvk X f t o l) 1 0 ∧ F' = F) m_no := by
    intro d
    induction d with
    | zero =>
      intro k x hk hx
      refine b_330_71 hS ?_
      rw [Int.toNat_natCast, hc, g324.1]
      refine ⟨by omega, by omega, by omega, fun h => by omega, fun _ => ⟨g324.2, fun h0 => ?_, fun h0 => ?_⟩⟩
      · rcases hx with ⟨h1, -⟩ | ⟨-, h⟩
        · omega
        · exact bad h
      · rcases hx with ⟨-, h1, h2, h3⟩ | ⟨h, -⟩
        · have own : ∀ z, z < (toks X f).length → tl X f (t - 1) ≤ tl X f z → tl X f z ≤ tl X f l → t - 1 ≤ z ∧ z ≤ l := fun z hz => h3 z (by omega)
          refine ⟨fun e => ?_, fun e => ?_⟩
          · have h00 : atX X o = 0 := by omega
            exact ⟨(pif_1 ⟨own, h1, h2, by rw [h00]; rfl⟩).symm, rfl⟩
          · have e1 : (8 * (o : Int) + ((atX X o : Int) - 1)).toNat = 8 * o + (atX X o - 1) := by omega
            have em := md1 o (atX X o - 1) ho (by omega)
            rw [show atX X o - 1 + 1 = atX X o by omega] at em
            rw [e1, em]
            refine ⟨by omega, by omega, by omega, fun e2 => ⟨(pif_1 ⟨own, h1, h2, bi0.mp e2⟩).symm, rfl⟩, fun e2 => bad (fun hm => e2 (bi0.mpr hm.2.2.2))⟩
        · exact absurd h h0
    | succ d ih =>
      intro k x hk hx
      have hk2 : k < (toks X f).length := by omega
      have tk0 := lexm_tok (hT.2 f hf) hk2
      have nx : ∀ y : Int, (y = 1 ∧ md X f (tl X f (t - 1)) = false ∧ md X f (tl X f l + 1) = false ∧ ∀ z, z < k + 1 → tl X f (t - 1) ≤ tl X f z → tl X f z ≤ tl X f l → t - 1 ≤ z ∧ z ≤ l) ∨ (y = 0 ∧ ¬ mvk X f t o l) → L_330_71 (f : Int) ((200 * f + (t - 1) : Nat) : Int) ((200 * f + l : Nat) : Int) (o : Int) (8 * (f : Int) + (tl X f (t - 1) : Int)) (8 * (f : Int) + (tl X f l : Int)) y (((200 * f + k : Nat) : Int) + 1) F (fun r F' => r = pif (mvk X f t o l) 1 0 ∧ F' = F) m_no := fun y hy => by
        have := ih (k + 1) y (by omega) hy
        rw [show ((200 * f + (k + 1) : Nat) : Int) = ((200 * f + k : Nat) : Int) + 1 by omega] at this
        exact this
      refine b_330_71 hS ?_
      rw [Int.toNat_natCast, hc, Int.toNat_natCast, tk0.2.1, p203, p203, show (8 * (f : Int) + (tl X f (t - 1) : Int)) % 8 = (tl X f (t - 1) : Int) by omega, show (8 * (f : Int) + (tl X f l : Int)) % 8 = (tl X f l : Int) by omega]
      refine ⟨by omega, by omega, by omega, fun _ => ⟨fun h0 => ⟨by omega, ?_⟩, fun h0 => ⟨by omega, by omega, by omega, fun e1 => ⟨fun e2 => ⟨by omega, ?_⟩, fun e2 => ⟨by omega, ?_⟩⟩, fun e1 => ⟨by omega, ?_⟩⟩⟩, fun h => by omega⟩
      · rcases hx with ⟨h1, -⟩ | ⟨-, h⟩
        · omega
        · exact nx 0 (Or.inr ⟨rfl, h⟩)
      · rcases hx with ⟨-, h1, h2, h3⟩ | ⟨h, -⟩
        · exact nx 1 (Or.inl ⟨rfl, h1, h2, fun z hz g1 g2 => by
            by_cases c : z = k
            · subst c; omega
            · exact h3 z (by omega) g1 g2⟩)
        · exact absurd h h0
      · refine nx 0 (Or.inr ⟨rfl, fun hm => ?_⟩)
        have := hm.1 k hk2 (by omega) (by omega)
        exact e2 (by omega)
      · rcases hx with ⟨-, h1, h2, h3⟩ | ⟨h, -⟩
        · exact nx 1 (Or.inl ⟨rfl, h1, h2, fun z hz g1 g2 => by
            by_cases c : z = k
            · subst c; exact absurd (by omega) e1
            · exact h3 z (by omega) g1 g2⟩)
        · exact absurd h h0
  have st : ∀ x : Int, (x = 1 ∧ md X f (tl X f (t - 1)) = false ∧ md X f (tl X f l + 1) = false) ∨ (x = 0 ∧ ¬ mvk X f t o l) → L_330_71 (f : Int) ((200 * f + (t - 1) : Nat) : Int) ((200 * f + l : Nat) : Int) (o : Int) (8 * (f : Int) + (tl X f (t - 1) : Int)) (8 * (f : Int) + (tl X f l : Int)) x (200 * (f : Int)) F (fun r F' => r = pif (mvk X f t o l) 1 0 ∧ F' = F) m_no := fun x hx => by
    have h9 : (x = 1 ∧ md X f (tl X f (t - 1)) = false ∧ md X f (tl X f l + 1) = false ∧ ∀ z, z < 0 → tl X f (t - 1) ≤ tl X f z → tl X f z ≤ tl X f l → t - 1 ≤ z ∧ z ≤ l) ∨ (x = 0 ∧ ¬ mvk X f t o l) := by
      rcases hx with ⟨h1, h2, h3⟩ | h
      · exact Or.inl ⟨h1, h2, h3, fun z hz => absurd hz (Nat.not_lt_zero z)⟩
      · exact Or.inr h
    have := key (toks X f).length 0 x (by omega) h9
    rw [show ((200 * f + 0 : Nat) : Int) = 200 * (f : Int) by omega] at this
    exact this
  have eb : F 218 (8 * (f : Int) + (tl X f l : Int)).toNat = bi (md X f (tl X f l + 1)) := by
    rw [show (8 * (f : Int) + (tl X f l : Int)).toNat = 8 * f + tl X f l by omega]
    exact md1 f _ hf o2.1
  refine c_330 hS ?_
  rw [Int.toNat_natCast, Int.toNat_natCast, t1.2.1, tl0.2.1, eb]
  refine ⟨by omega, by omega, by omega, by omega, by omega, by omega, by omega, fun e0 => ⟨by omega, fun e1 => ⟨by omega, st 1 (Or.inl ⟨rfl, ?_, bi0.mp e1⟩)⟩, fun e1 => ⟨by omega, st 0 (Or.inr ⟨rfl, fun hm => e1 (bi0.mpr hm.2.2.1)⟩)⟩⟩, fun e0 => ⟨by omega, by omega, ?_⟩⟩
  · rw [show tl X f (t - 1) = 0 by omega]
    rfl
  · have et : F 218 (8 * (f : Int) + (tl X f (t - 1) : Int) - 1).toNat = bi (md X f (tl X f (t - 1))) := by
      rw [show (8 * (f : Int) + (tl X f (t - 1) : Int) - 1).toNat = 8 * f + (tl X f (t - 1) - 1) by omega, md1 f _ hf (by omega), show tl X f (t - 1) - 1 + 1 = tl X f (t - 1) by omega]
    rw [et]
    exact ⟨fun e2 => ⟨by omega, fun e1 => ⟨by omega, st 1 (Or.inl ⟨rfl, bi0.mp e2, bi0.mp e1⟩)⟩, fun e1 => ⟨by omega, st 0 (Or.inr ⟨rfl, fun hm => e1 (bi0.mpr hm.2.2.1)⟩)⟩⟩, fun e2 => ⟨by omega, st 0 (Or.inr ⟨rfl, fun hm => e2 (bi0.mpr hm.2.1)⟩)⟩⟩
end Mm1
